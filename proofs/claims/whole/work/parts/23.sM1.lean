/-! STEPS, printed by program: M1 -/
theorem dX8_thrown_0 : decode cX8_thrown 0 = .ok (.aload_n 0, 1) := by decide +kernel
theorem dX8_thrown_1 : decode cX8_thrown 1 = .ok (.getfield 104, 3) := by decide +kernel
theorem dX8_thrown_4 : decode cX8_thrown 4 = .ok (.ireturn, 1) := by decide +kernel
set_option maxRecDepth 20000 in
set_option maxHeartbeats 4000000 in
theorem vX8_thrown_0 {l : Launch} {x : CX} {a0 : Nat} {h : PH} {rc rs n0 : Nat} {Q : Option Value → PH → Prop} {X : String → PH → Prop}
    (K : ((hK h a0).1 = 8) ∧ Q (some (.int (hI h a0 1))) h) :
    Gm l x mX8_thrown 0 0 [(0, .ref a0)] [] h rc rs n0 Q X := by
  refine g_aload_n dX8_thrown_0 rfl 0 rfl ?_
  obtain ⟨e1, K⟩ := K
  refine g_get (c := 8) (k := 1) (v := .int (hI h a0 1)) dX8_thrown_1 fc_8 (by decide) (by decide) bw_1199 rfl e1 ?_
  exact g_iret dX8_thrown_4 rfl K
theorem dX8_fail_0 : decode cX8_fail 0 = .ok (.aload_n 0, 1) := by decide +kernel
theorem dX8_fail_1 : decode cX8_fail 1 = .ok (.iload_n 1, 1) := by decide +kernel
theorem dX8_fail_2 : decode cX8_fail 2 = .ok (.putfield 104, 3) := by decide +kernel
theorem dX8_fail_5 : decode cX8_fail 5 = .ok (.iconst 0, 1) := by decide +kernel
theorem dX8_fail_6 : decode cX8_fail 6 = .ok (.ireturn, 1) := by decide +kernel
set_option maxRecDepth 20000 in
set_option maxHeartbeats 4000000 in
theorem vX8_fail_0 {l : Launch} {x : CX} {a0 : Nat} {x1 : Int32} {h : PH} {rc rs n0 : Nat} {Q : Option Value → PH → Prop} {X : String → PH → Prop}
    (K : ((hK h a0).1 = 8) ∧ Q (some (.int 0)) (sI h a0 1 x1)) :
    Gm l x mX8_fail 0 0 [(0, .ref a0), (1, .int x1)] [] h rc rs n0 Q X := by
  refine g_aload_n dX8_fail_0 rfl 0 rfl ?_
  refine g_iload_n dX8_fail_1 rfl 1 rfl ?_
  obtain ⟨e1, K⟩ := K
  refine g_puti (c := 8) (k := 1) dX8_fail_2 fc_8 (by decide) (by decide) bw_1199 (Or.inl rfl) rfl e1 ?_
  refine g_iconst (v := 0) dX8_fail_5 (by decide) ?_
  exact g_iret dX8_fail_6 rfl K
theorem dX8_isIn_0 : decode cX8_isIn 0 = .ok (.iload_n 0, 1) := by decide +kernel
theorem dX8_isIn_1 : decode cX8_isIn 1 = .ok (.iload_n 1, 1) := by decide +kernel
theorem dX8_isIn_2 : decode cX8_isIn 2 = .ok (.if_icmp .lt 12, 3) := by decide +kernel
theorem dX8_isIn_5 : decode cX8_isIn 5 = .ok (.iload_n 0, 1) := by decide +kernel
theorem dX8_isIn_6 : decode cX8_isIn 6 = .ok (.iload_n 2, 1) := by decide +kernel
theorem dX8_isIn_7 : decode cX8_isIn 7 = .ok (.if_icmp .gt 7, 3) := by decide +kernel
theorem dX8_isIn_10 : decode cX8_isIn 10 = .ok (.iconst 1, 1) := by decide +kernel
theorem dX8_isIn_11 : decode cX8_isIn 11 = .ok (.goto 4, 3) := by decide +kernel
theorem dX8_isIn_14 : decode cX8_isIn 14 = .ok (.iconst 0, 1) := by decide +kernel
theorem dX8_isIn_15 : decode cX8_isIn 15 = .ok (.ireturn, 1) := by decide +kernel
set_option maxRecDepth 20000 in
set_option maxHeartbeats 4000000 in
theorem vX8_isIn_0 {l : Launch} {x : CX} {x0 : Int32} {x1 : Int32} {x2 : Int32} {h : PH} {rc rs n0 : Nat} {Q : Option Value → PH → Prop} {X : String → PH → Prop}
    (K : (((if x0 < x1 then 0 else (if x2 < x0 then 0 else 1 : Int32) : Int32) : Int32) = 0 ∨ ((if x0 < x1 then 0 else (if x2 < x0 then 0 else 1 : Int32) : Int32) : Int32) = 1) ∧ Q (some (.int (if x0 < x1 then 0 else (if x2 < x0 then 0 else 1 : Int32) : Int32))) h) :
    Gm l x mX8_isIn 0 0 [(0, .int x0), (1, .int x1), (2, .int x2)] [] h rc rs n0 Q X := by
  refine g_iload_n dX8_isIn_0 rfl 0 rfl ?_
  refine g_iload_n dX8_isIn_1 rfl 1 rfl ?_
  have KJ : Gm l x mX8_isIn 0 15 [(0, .int x0), (1, .int x1), (2, .int x2)] [.int (if x0 < x1 then 0 else (if x2 < x0 then 0 else 1 : Int32) : Int32)] h rc rs n0 Q X := by
    exact g_zret dX8_isIn_15 rfl K.1 K.2
  refine g_icmp_lt (tgt := 14) dX8_isIn_2 (by decide) (fun c1 => ?_) (fun c1 => ?_)
  · refine g_iconst (v := 0) dX8_isIn_14 (by decide) ?_
    first | (simp only [if_pos c1] at KJ; exact KJ) | (simp only [if_pos c1, ite_true, ite_false, eq_self] at KJ; exact KJ) | (simp only [if_pos c1] at KJ ⊢; exact KJ) | exact KJ
  · refine g_iload_n dX8_isIn_5 rfl 0 rfl ?_
    refine g_iload_n dX8_isIn_6 rfl 2 rfl ?_
    refine g_icmp_gt (tgt := 14) dX8_isIn_7 (by decide) (fun c2 => ?_) (fun c2 => ?_)
    · refine g_iconst (v := 0) dX8_isIn_14 (by decide) ?_
      first | (simp only [if_neg c1, if_pos c2] at KJ; exact KJ) | (simp only [if_neg c1, if_pos c2, ite_true, ite_false, eq_self] at KJ; exact KJ) | (simp only [if_neg c1, if_pos c2] at KJ ⊢; exact KJ) | exact KJ
    · refine g_iconst (v := 1) dX8_isIn_10 (by decide) ?_
      refine g_goto (tgt := 15) dX8_isIn_11 (by decide) ?_
      first | (simp only [if_neg c1, if_neg c2] at KJ; exact KJ) | (simp only [if_neg c1, if_neg c2, ite_true, ite_false, eq_self] at KJ; exact KJ) | (simp only [if_neg c1, if_neg c2] at KJ ⊢; exact KJ) | exact KJ
theorem dX8_layFirst_0 : decode cX8_layFirst 0 = .ok (.iconst 0, 1) := by decide +kernel
theorem dX8_layFirst_1 : decode cX8_layFirst 1 = .ok (.istore_n 1, 1) := by decide +kernel
theorem dX8_layFirst_2 : decode cX8_layFirst 2 = .ok (.iload_n 1, 1) := by decide +kernel
theorem dX8_layFirst_3 : decode cX8_layFirst 3 = .ok (.bipush 7, 2) := by decide +kernel
theorem dX8_layFirst_5 : decode cX8_layFirst 5 = .ok (.if_icmp .ge 13, 3) := by decide +kernel
theorem dX8_layFirst_8 : decode cX8_layFirst 8 = .ok (.aload_n 0, 1) := by decide +kernel
theorem dX8_layFirst_9 : decode cX8_layFirst 9 = .ok (.iload_n 1, 1) := by decide +kernel
theorem dX8_layFirst_10 : decode cX8_layFirst 10 = .ok (.iconst (-1), 1) := by decide +kernel
theorem dX8_layFirst_11 : decode cX8_layFirst 11 = .ok (.iastore, 1) := by decide +kernel
theorem dX8_layFirst_12 : decode cX8_layFirst 12 = .ok (.iinc 1 1, 3) := by decide +kernel
theorem dX8_layFirst_15 : decode cX8_layFirst 15 = .ok (.goto (-13), 3) := by decide +kernel
theorem dX8_layFirst_18 : decode cX8_layFirst 18 = .ok (.aload_n 0, 1) := by decide +kernel
theorem dX8_layFirst_19 : decode cX8_layFirst 19 = .ok (.iconst 0, 1) := by decide +kernel
theorem dX8_layFirst_20 : decode cX8_layFirst 20 = .ok (.bipush 8, 2) := by decide +kernel
theorem dX8_layFirst_22 : decode cX8_layFirst 22 = .ok (.iastore, 1) := by decide +kernel
theorem dX8_layFirst_23 : decode cX8_layFirst 23 = .ok (.aload_n 0, 1) := by decide +kernel
theorem dX8_layFirst_24 : decode cX8_layFirst 24 = .ok (.iconst 1, 1) := by decide +kernel
theorem dX8_layFirst_25 : decode cX8_layFirst 25 = .ok (.iconst 0, 1) := by decide +kernel
theorem dX8_layFirst_26 : decode cX8_layFirst 26 = .ok (.iastore, 1) := by decide +kernel
theorem dX8_layFirst_27 : decode cX8_layFirst 27 = .ok (.aload_n 0, 1) := by decide +kernel
theorem dX8_layFirst_28 : decode cX8_layFirst 28 = .ok (.iconst 2, 1) := by decide +kernel
theorem dX8_layFirst_29 : decode cX8_layFirst 29 = .ok (.iconst 0, 1) := by decide +kernel
theorem dX8_layFirst_30 : decode cX8_layFirst 30 = .ok (.iastore, 1) := by decide +kernel
theorem dX8_layFirst_31 : decode cX8_layFirst 31 = .ok (.return_, 1) := by decide +kernel
set_option maxRecDepth 20000 in
set_option maxHeartbeats 4000000 in
theorem vX8_layFirst_0 {l : Launch} {x : CX} {a0 : Nat} {h : PH} {rc rs n0 : Nat} {Q : Option Value → PH → Prop} {X : String → PH → Prop}
    (K : Gm l x mX8_layFirst 0 2 [(0, .ref a0), (1, .int 0)] [] h rc rs n0 Q X) :
    Gm l x mX8_layFirst 0 0 [(0, .ref a0)] [] h rc rs n0 Q X := by
  refine g_iconst (v := 0) dX8_layFirst_0 (by decide) ?_
  refine g_istore_n (lv' := [(0, .ref a0), (1, .int 0)]) dX8_layFirst_1 rfl (by decide) rfl ?_
  exact K
set_option maxRecDepth 20000 in
set_option maxHeartbeats 4000000 in
theorem vX8_layFirst_2 {l : Launch} {x : CX} {a0 : Nat} {x1 : Int32} {h : PH} {rc rs n0 : Nat} {Q : Option Value → PH → Prop} {X : String → PH → Prop}
    (K : ((7 ≤ x1 → ((hK h a0).1 = 100) ∧ (vp_in 0 (hK h a0).2) ∧ (vp_in 1 (hK h a0).2) ∧ (vp_in 2 (hK h a0).2) ∧ Q none (sI (sI (sI h a0 (Int32.toNatClampNeg 0) 8) a0 (Int32.toNatClampNeg 1) 0) a0 (Int32.toNatClampNeg 2) 0)) ∧ (¬ 7 ≤ x1 → ((hK h a0).1 = 100) ∧ (vp_in x1 (hK h a0).2) ∧ Gm l x mX8_layFirst 0 2 [(0, .ref a0), (1, .int (x1 + 1))] [] (sI h a0 x1.toNatClampNeg (-1)) rc rs n0 Q X))) :
    Gm l x mX8_layFirst 0 2 [(0, .ref a0), (1, .int x1)] [] h rc rs n0 Q X := by
  refine g_iload_n dX8_layFirst_2 rfl 1 rfl ?_
  refine g_bipush (v := 7) dX8_layFirst_3 (by decide) ?_
  refine g_icmp_ge (tgt := 18) dX8_layFirst_5 (by decide) (fun c1 => ?_) (fun c1 => ?_)
  · replace K := K.1 c1
    refine g_aload_n dX8_layFirst_18 rfl 0 rfl ?_
    refine g_iconst (v := 0) dX8_layFirst_19 (by decide) ?_
    refine g_bipush (v := 8) dX8_layFirst_20 (by decide) ?_
    obtain ⟨e2, e3, K⟩ := K
    refine g_iast dX8_layFirst_22 e2 e3 ?_
    refine g_aload_n dX8_layFirst_23 rfl 0 rfl ?_
    refine g_iconst (v := 1) dX8_layFirst_24 (by decide) ?_
    refine g_iconst (v := 0) dX8_layFirst_25 (by decide) ?_
    obtain ⟨e4, K⟩ := K
    refine g_iast dX8_layFirst_26 (kkI e2) (kvI e4) ?_
    refine g_aload_n dX8_layFirst_27 rfl 0 rfl ?_
    refine g_iconst (v := 2) dX8_layFirst_28 (by decide) ?_
    refine g_iconst (v := 0) dX8_layFirst_29 (by decide) ?_
    obtain ⟨e5, K⟩ := K
    refine g_iast dX8_layFirst_30 (kkI (kkI e2)) (kvI (kvI e5)) ?_
    exact g_vret dX8_layFirst_31 rfl K
  · replace K := K.2 c1
    refine g_aload_n dX8_layFirst_8 rfl 0 rfl ?_
    refine g_iload_n dX8_layFirst_9 rfl 1 rfl ?_
    refine g_iconst (v := (-1)) dX8_layFirst_10 (by decide) ?_
    obtain ⟨e6, e7, K⟩ := K
    refine g_iast dX8_layFirst_11 e6 e7 ?_
    refine g_iinc (v := (x1 + 1)) (lv' := [(0, .ref a0), (1, .int (x1 + 1))]) dX8_layFirst_12 1 rfl (by rfl) (by decide) rfl ?_
    refine g_goto (tgt := 2) dX8_layFirst_15 (by decide) ?_
    exact K
theorem dX8_tells_0 : decode cX8_tells 0 = .ok (.aload_n 0, 1) := by decide +kernel
theorem dX8_tells_1 : decode cX8_tells 1 = .ok (.getfield 36, 3) := by decide +kernel
theorem dX8_tells_4 : decode cX8_tells 4 = .ok (.iload_n 1, 1) := by decide +kernel
theorem dX8_tells_5 : decode cX8_tells 5 = .ok (.iaload, 1) := by decide +kernel
theorem dX8_tells_6 : decode cX8_tells 6 = .ok (.iconst (-1), 1) := by decide +kernel
theorem dX8_tells_7 : decode cX8_tells 7 = .ok (.if_icmp .eq 12, 3) := by decide +kernel
theorem dX8_tells_10 : decode cX8_tells 10 = .ok (.aload_n 0, 1) := by decide +kernel
theorem dX8_tells_11 : decode cX8_tells 11 = .ok (.getfield 36, 3) := by decide +kernel
theorem dX8_tells_14 : decode cX8_tells 14 = .ok (.iload_n 1, 1) := by decide +kernel
theorem dX8_tells_15 : decode cX8_tells 15 = .ok (.iaload, 1) := by decide +kernel
theorem dX8_tells_16 : decode cX8_tells 16 = .ok (.goto 22, 3) := by decide +kernel
theorem dX8_tells_19 : decode cX8_tells 19 = .ok (.iload_n 1, 1) := by decide +kernel
theorem dX8_tells_20 : decode cX8_tells 20 = .ok (.iconst 3, 1) := by decide +kernel
theorem dX8_tells_21 : decode cX8_tells 21 = .ok (.if_icmp .ne 7, 3) := by decide +kernel
theorem dX8_tells_24 : decode cX8_tells 24 = .ok (.iconst 2, 1) := by decide +kernel
theorem dX8_tells_25 : decode cX8_tells 25 = .ok (.goto 13, 3) := by decide +kernel
theorem dX8_tells_28 : decode cX8_tells 28 = .ok (.iload_n 1, 1) := by decide +kernel
theorem dX8_tells_29 : decode cX8_tells 29 = .ok (.iconst 5, 1) := by decide +kernel
theorem dX8_tells_30 : decode cX8_tells 30 = .ok (.if_icmp .ne 7, 3) := by decide +kernel
theorem dX8_tells_33 : decode cX8_tells 33 = .ok (.iconst 1, 1) := by decide +kernel
theorem dX8_tells_34 : decode cX8_tells 34 = .ok (.goto 4, 3) := by decide +kernel
theorem dX8_tells_37 : decode cX8_tells 37 = .ok (.iconst 0, 1) := by decide +kernel
theorem dX8_tells_38 : decode cX8_tells 38 = .ok (.ireturn, 1) := by decide +kernel
set_option maxRecDepth 20000 in
set_option maxHeartbeats 4000000 in
theorem vX8_tells_0 {l : Launch} {x : CX} {a0 : Nat} {x1 : Int32} {h : PH} {rc rs n0 : Nat} {Q : Option Value → PH → Prop} {X : String → PH → Prop}
    (K : ((hK h a0).1 = 8) ∧ ∃ b2, (hR h a0 4 = some b2) ∧ ((hK h b2).1 = 100) ∧ (vp_in x1 (hK h b2).2) ∧ (((hI h b2 x1.toNatClampNeg) = (-1) → Q (some (.int (if x1 = 3 then 2 else (if x1 = 5 then 1 else 0 : Int32) : Int32))) h) ∧ (¬ (hI h b2 x1.toNatClampNeg) = (-1) → (vp_in x1 (hK h b2).2) ∧ Q (some (.int (hI h b2 x1.toNatClampNeg))) h))) :
    Gm l x mX8_tells 0 0 [(0, .ref a0), (1, .int x1)] [] h rc rs n0 Q X := by
  refine g_aload_n dX8_tells_0 rfl 0 rfl ?_
  obtain ⟨e1, b2, e3, K⟩ := K
  refine g_get (c := 8) (k := 4) (v := .ref b2) dX8_tells_1 fc_8 (by decide) (by decide) bw_1202 (congrArg pr e3) e1 ?_
  refine g_iload_n dX8_tells_4 rfl 1 rfl ?_
  obtain ⟨e4, e5, K⟩ := K
  refine g_iald dX8_tells_5 e4 e5 ?_
  refine g_iconst (v := (-1)) dX8_tells_6 (by decide) ?_
  refine g_icmp_eq (tgt := 19) dX8_tells_7 (by decide) (fun c6 => ?_) (fun c6 => ?_)
  · replace K := K.1 c6
    refine g_iload_n dX8_tells_19 rfl 1 rfl ?_
    refine g_iconst (v := 3) dX8_tells_20 (by decide) ?_
    have KJ : Gm l x mX8_tells 0 38 [(0, .ref a0), (1, .int x1)] [.int (if x1 = 3 then 2 else (if x1 = 5 then 1 else 0 : Int32) : Int32)] h rc rs n0 Q X := by
      exact g_iret dX8_tells_38 rfl K
    refine g_icmp_ne (tgt := 28) dX8_tells_21 (by decide) (fun c7 => ?_) (fun c7 => ?_)
    · refine g_iload_n dX8_tells_28 rfl 1 rfl ?_
      refine g_iconst (v := 5) dX8_tells_29 (by decide) ?_
      refine g_icmp_ne (tgt := 37) dX8_tells_30 (by decide) (fun c8 => ?_) (fun c8 => ?_)
      · refine g_iconst (v := 0) dX8_tells_37 (by decide) ?_
        first | (simp only [if_neg c7, if_neg c8] at KJ; exact KJ) | (simp only [if_neg c7, if_neg c8, ite_true, ite_false, eq_self] at KJ; exact KJ) | (simp only [if_neg c7, if_neg c8] at KJ ⊢; exact KJ) | exact KJ
      · refine g_iconst (v := 1) dX8_tells_33 (by decide) ?_
        refine g_goto (tgt := 38) dX8_tells_34 (by decide) ?_
        first | (simp only [if_neg c7, if_pos c8] at KJ; exact KJ) | (simp only [if_neg c7, if_pos c8, ite_true, ite_false, eq_self] at KJ; exact KJ) | (simp only [if_neg c7, if_pos c8] at KJ ⊢; exact KJ) | exact KJ
    · refine g_iconst (v := 2) dX8_tells_24 (by decide) ?_
      refine g_goto (tgt := 38) dX8_tells_25 (by decide) ?_
      first | (simp only [if_pos c7] at KJ; exact KJ) | (simp only [if_pos c7, ite_true, ite_false, eq_self] at KJ; exact KJ) | (simp only [if_pos c7] at KJ ⊢; exact KJ) | exact KJ
  · replace K := K.2 c6
    refine g_aload_n dX8_tells_10 rfl 0 rfl ?_
    refine g_get (c := 8) (k := 4) (v := .ref b2) dX8_tells_11 fc_8 (by decide) (by decide) bw_1202 (congrArg pr e3) e1 ?_
    refine g_iload_n dX8_tells_14 rfl 1 rfl ?_
    obtain ⟨e9, K⟩ := K
    refine g_iald dX8_tells_15 e4 e9 ?_
    refine g_goto (tgt := 38) dX8_tells_16 (by decide) ?_
    exact g_iret dX8_tells_38 rfl K
theorem dX8_feed_0 : decode cX8_feed 0 = .ok (.aload_n 0, 1) := by decide +kernel
theorem dX8_feed_1 : decode cX8_feed 1 = .ok (.iconst 0, 1) := by decide +kernel
theorem dX8_feed_2 : decode cX8_feed 2 = .ok (.putfield 104, 3) := by decide +kernel
theorem dX8_feed_5 : decode cX8_feed 5 = .ok (.aload_n 0, 1) := by decide +kernel
theorem dX8_feed_6 : decode cX8_feed 6 = .ok (.getfield 107, 3) := by decide +kernel
theorem dX8_feed_9 : decode cX8_feed 9 = .ok (.bipush 20, 2) := by decide +kernel
theorem dX8_feed_11 : decode cX8_feed 11 = .ok (.iadd, 1) := by decide +kernel
theorem dX8_feed_12 : decode cX8_feed 12 = .ok (.sipush 900, 3) := by decide +kernel
theorem dX8_feed_15 : decode cX8_feed 15 = .ok (.if_icmp .le 5, 3) := by decide +kernel
theorem dX8_feed_18 : decode cX8_feed 18 = .ok (.iconst (-1), 1) := by decide +kernel
theorem dX8_feed_19 : decode cX8_feed 19 = .ok (.ireturn, 1) := by decide +kernel
theorem dX8_feed_20 : decode cX8_feed 20 = .ok (.iconst 0, 1) := by decide +kernel
theorem dX8_feed_21 : decode cX8_feed 21 = .ok (.istore 6, 2) := by decide +kernel
theorem dX8_feed_23 : decode cX8_feed 23 = .ok (.iload 6, 2) := by decide +kernel
theorem dX8_feed_25 : decode cX8_feed 25 = .ok (.bipush 20, 2) := by decide +kernel
theorem dX8_feed_27 : decode cX8_feed 27 = .ok (.if_icmp .ge 93, 3) := by decide +kernel
theorem dX8_feed_30 : decode cX8_feed 30 = .ok (.iload 6, 2) := by decide +kernel
theorem dX8_feed_32 : decode cX8_feed 32 = .ok (.iconst 4, 1) := by decide +kernel
theorem dX8_feed_33 : decode cX8_feed 33 = .ok (.if_icmp .ge 7, 3) := by decide +kernel
theorem dX8_feed_36 : decode cX8_feed 36 = .ok (.iload_n 1, 1) := by decide +kernel
theorem dX8_feed_37 : decode cX8_feed 37 = .ok (.goto 39, 3) := by decide +kernel
theorem dX8_feed_40 : decode cX8_feed 40 = .ok (.iload 6, 2) := by decide +kernel
theorem dX8_feed_42 : decode cX8_feed 42 = .ok (.bipush 8, 2) := by decide +kernel
theorem dX8_feed_44 : decode cX8_feed 44 = .ok (.if_icmp .ge 7, 3) := by decide +kernel
theorem dX8_feed_47 : decode cX8_feed 47 = .ok (.iload_n 2, 1) := by decide +kernel
theorem dX8_feed_48 : decode cX8_feed 48 = .ok (.goto 28, 3) := by decide +kernel
theorem dX8_feed_51 : decode cX8_feed 51 = .ok (.iload 6, 2) := by decide +kernel
theorem dX8_feed_53 : decode cX8_feed 53 = .ok (.bipush 12, 2) := by decide +kernel
theorem dX8_feed_55 : decode cX8_feed 55 = .ok (.if_icmp .ge 7, 3) := by decide +kernel
theorem dX8_feed_58 : decode cX8_feed 58 = .ok (.iload_n 3, 1) := by decide +kernel
theorem dX8_feed_59 : decode cX8_feed 59 = .ok (.goto 17, 3) := by decide +kernel
theorem dX8_feed_62 : decode cX8_feed 62 = .ok (.iload 6, 2) := by decide +kernel
theorem dX8_feed_64 : decode cX8_feed 64 = .ok (.bipush 16, 2) := by decide +kernel
theorem dX8_feed_66 : decode cX8_feed 66 = .ok (.if_icmp .ge 8, 3) := by decide +kernel
theorem dX8_feed_69 : decode cX8_feed 69 = .ok (.iload 4, 2) := by decide +kernel
theorem dX8_feed_71 : decode cX8_feed 71 = .ok (.goto 5, 3) := by decide +kernel
theorem dX8_feed_74 : decode cX8_feed 74 = .ok (.iload 5, 2) := by decide +kernel
theorem dX8_feed_76 : decode cX8_feed 76 = .ok (.istore 7, 2) := by decide +kernel
theorem dX8_feed_78 : decode cX8_feed 78 = .ok (.aload_n 0, 1) := by decide +kernel
theorem dX8_feed_79 : decode cX8_feed 79 = .ok (.getfield 54, 3) := by decide +kernel
theorem dX8_feed_82 : decode cX8_feed 82 = .ok (.aload_n 0, 1) := by decide +kernel
theorem dX8_feed_83 : decode cX8_feed 83 = .ok (.getfield 107, 3) := by decide +kernel
theorem dX8_feed_86 : decode cX8_feed 86 = .ok (.iload 7, 2) := by decide +kernel
theorem dX8_feed_88 : decode cX8_feed 88 = .ok (.bipush 24, 2) := by decide +kernel
theorem dX8_feed_90 : decode cX8_feed 90 = .ok (.bipush 8, 2) := by decide +kernel
theorem dX8_feed_92 : decode cX8_feed 92 = .ok (.iload 6, 2) := by decide +kernel
theorem dX8_feed_94 : decode cX8_feed 94 = .ok (.iconst 4, 1) := by decide +kernel
theorem dX8_feed_95 : decode cX8_feed 95 = .ok (.irem, 1) := by decide +kernel
theorem dX8_feed_96 : decode cX8_feed 96 = .ok (.imul, 1) := by decide +kernel
theorem dX8_feed_97 : decode cX8_feed 97 = .ok (.isub, 1) := by decide +kernel
theorem dX8_feed_98 : decode cX8_feed 98 = .ok (.ishr, 1) := by decide +kernel
theorem dX8_feed_99 : decode cX8_feed 99 = .ok (.sipush 255, 3) := by decide +kernel
theorem dX8_feed_102 : decode cX8_feed 102 = .ok (.iand, 1) := by decide +kernel
theorem dX8_feed_103 : decode cX8_feed 103 = .ok (.iastore, 1) := by decide +kernel
theorem dX8_feed_104 : decode cX8_feed 104 = .ok (.aload_n 0, 1) := by decide +kernel
theorem dX8_feed_105 : decode cX8_feed 105 = .ok (.dup, 1) := by decide +kernel
theorem dX8_feed_106 : decode cX8_feed 106 = .ok (.getfield 107, 3) := by decide +kernel
theorem dX8_feed_109 : decode cX8_feed 109 = .ok (.iconst 1, 1) := by decide +kernel
theorem dX8_feed_110 : decode cX8_feed 110 = .ok (.iadd, 1) := by decide +kernel
theorem dX8_feed_111 : decode cX8_feed 111 = .ok (.putfield 107, 3) := by decide +kernel
theorem dX8_feed_114 : decode cX8_feed 114 = .ok (.iinc 6 1, 3) := by decide +kernel
theorem dX8_feed_117 : decode cX8_feed 117 = .ok (.goto (-94), 3) := by decide +kernel
theorem dX8_feed_120 : decode cX8_feed 120 = .ok (.aload_n 0, 1) := by decide +kernel
theorem dX8_feed_121 : decode cX8_feed 121 = .ok (.getfield 107, 3) := by decide +kernel
theorem dX8_feed_124 : decode cX8_feed 124 = .ok (.ireturn, 1) := by decide +kernel
set_option maxRecDepth 20000 in
set_option maxHeartbeats 4000000 in
theorem vX8_feed_0 {l : Launch} {x : CX} {a0 : Nat} {x1 : Int32} {x2 : Int32} {x3 : Int32} {x4 : Int32} {x5 : Int32} {h : PH} {rc rs n0 : Nat} {Q : Option Value → PH → Prop} {X : String → PH → Prop}
    (K : ((hK h a0).1 = 8) ∧ ((((hI h a0 11) + 20) ≤ 900 → Gm l x mX8_feed 0 23 [(0, .ref a0), (1, .int x1), (2, .int x2), (3, .int x3), (4, .int x4), (5, .int x5), (6, .int 0)] [] (sI h a0 1 0) rc rs n0 Q X) ∧ (¬ ((hI h a0 11) + 20) ≤ 900 → Q (some (.int (-1))) (sI h a0 1 0)))) :
    Gm l x mX8_feed 0 0 [(0, .ref a0), (1, .int x1), (2, .int x2), (3, .int x3), (4, .int x4), (5, .int x5)] [] h rc rs n0 Q X := by
  refine g_aload_n dX8_feed_0 rfl 0 rfl ?_
  refine g_iconst (v := 0) dX8_feed_1 (by decide) ?_
  obtain ⟨e1, K⟩ := K
  refine g_puti (c := 8) (k := 1) dX8_feed_2 fc_8 (by decide) (by decide) bw_1199 (Or.inl rfl) rfl e1 ?_
  refine g_aload_n dX8_feed_5 rfl 0 rfl ?_
  refine g_get (c := 8) (k := 11) (v := .int (hI h a0 11)) dX8_feed_6 fc_8 (by decide) (by decide) bw_1209 (congrArg Value.int ((skI (by decide)).trans rfl)) (kkI e1) ?_
  refine g_bipush (v := 20) dX8_feed_9 (by decide) ?_
  refine g_iadd dX8_feed_11 ?_
  refine g_sipush (v := 900) dX8_feed_12 (by decide) ?_
  refine g_icmp_le (tgt := 20) dX8_feed_15 (by decide) (fun c2 => ?_) (fun c2 => ?_)
  · replace K := K.1 c2
    refine g_iconst (v := 0) dX8_feed_20 (by decide) ?_
    refine g_istore (lv' := [(0, .ref a0), (1, .int x1), (2, .int x2), (3, .int x3), (4, .int x4), (5, .int x5), (6, .int 0)]) dX8_feed_21 (by decide) rfl ?_
    exact K
  · replace K := K.2 c2
    refine g_iconst (v := (-1)) dX8_feed_18 (by decide) ?_
    exact g_iret dX8_feed_19 rfl K
set_option maxRecDepth 20000 in
set_option maxHeartbeats 4000000 in
theorem vX8_feed_23 {l : Launch} {x : CX} {a0 : Nat} {x1 : Int32} {x2 : Int32} {x3 : Int32} {x4 : Int32} {x5 : Int32} {x6 : Int32} {h : PH} {rc rs n0 : Nat} {Q : Option Value → PH → Prop} {X : String → PH → Prop}
    (K : ((20 ≤ x6 → ((hK h a0).1 = 8) ∧ Q (some (.int (hI h a0 11))) h) ∧ (¬ 20 ≤ x6 → ∀ (y7 : Int32), y7 = (if 4 ≤ x6 then (if 8 ≤ x6 then (if 12 ≤ x6 then (if 16 ≤ x6 then x5 else x4 : Int32) else x3 : Int32) else x2 : Int32) else x1 : Int32) → ((hK h a0).1 = 8) ∧ ∃ b10, (hR h a0 10 = some b10) ∧ ((hK h b10).1 = 100) ∧ (vp_in (hI h a0 11) (hK h b10).2) ∧ Gm l x mX8_feed 0 23 [(0, .ref a0), (1, .int x1), (2, .int x2), (3, .int x3), (4, .int x4), (5, .int x5), (6, .int (x6 + 1))] [] (sI (sI h b10 (hI h a0 11).toNatClampNeg ((y7 >>> (((24 - (8 * (x6 - x6 / 4 * 4))) : Int32) &&& 31)) &&& 255)) a0 11 ((hI (sI h b10 (hI h a0 11).toNatClampNeg ((y7 >>> (((24 - (8 * (x6 - x6 / 4 * 4))) : Int32) &&& 31)) &&& 255)) a0 11) + 1)) rc rs n0 Q X))) :
    Gm l x mX8_feed 0 23 [(0, .ref a0), (1, .int x1), (2, .int x2), (3, .int x3), (4, .int x4), (5, .int x5), (6, .int x6)] [] h rc rs n0 Q X := by
  refine g_iload dX8_feed_23 6 rfl ?_
  refine g_bipush (v := 20) dX8_feed_25 (by decide) ?_
  refine g_icmp_ge (tgt := 120) dX8_feed_27 (by decide) (fun c1 => ?_) (fun c1 => ?_)
  · replace K := K.1 c1
    refine g_aload_n dX8_feed_120 rfl 0 rfl ?_
    obtain ⟨e2, K⟩ := K
    refine g_get (c := 8) (k := 11) (v := .int (hI h a0 11)) dX8_feed_121 fc_8 (by decide) (by decide) bw_1209 rfl e2 ?_
    exact g_iret dX8_feed_124 rfl K
  · replace K := K.2 c1
    refine g_iload dX8_feed_30 6 rfl ?_
    refine g_iconst (v := 4) dX8_feed_32 (by decide) ?_
    have KJ : Gm l x mX8_feed 0 76 [(0, .ref a0), (1, .int x1), (2, .int x2), (3, .int x3), (4, .int x4), (5, .int x5), (6, .int x6)] [.int (if 4 ≤ x6 then (if 8 ≤ x6 then (if 12 ≤ x6 then (if 16 ≤ x6 then x5 else x4 : Int32) else x3 : Int32) else x2 : Int32) else x1 : Int32)] h rc rs n0 Q X := by
      refine g_nmI (fun y7 e8 => ?_)
      replace K := K y7 e8
      refine g_istore (lv' := [(0, .ref a0), (1, .int x1), (2, .int x2), (3, .int x3), (4, .int x4), (5, .int x5), (6, .int x6), (7, .int y7)]) dX8_feed_76 (by decide) rfl ?_
      refine g_aload_n dX8_feed_78 rfl 0 rfl ?_
      obtain ⟨e9, b10, e11, K⟩ := K
      refine g_get (c := 8) (k := 10) (v := .ref b10) dX8_feed_79 fc_8 (by decide) (by decide) bw_1208 (congrArg pr e11) e9 ?_
      refine g_aload_n dX8_feed_82 rfl 0 rfl ?_
      refine g_get (c := 8) (k := 11) (v := .int (hI h a0 11)) dX8_feed_83 fc_8 (by decide) (by decide) bw_1209 rfl e9 ?_
      refine g_iload dX8_feed_86 7 rfl ?_
      refine g_bipush (v := 24) dX8_feed_88 (by decide) ?_
      refine g_bipush (v := 8) dX8_feed_90 (by decide) ?_
      refine g_iload dX8_feed_92 6 rfl ?_
      refine g_iconst (v := 4) dX8_feed_94 (by decide) ?_
      refine g_irem dX8_feed_95 (by decide) ?_
      refine g_imul dX8_feed_96 ?_
      refine g_isub dX8_feed_97 ?_
      refine g_ishr dX8_feed_98 ?_
      refine g_sipush (v := 255) dX8_feed_99 (by decide) ?_
      refine g_iand dX8_feed_102 ?_
      obtain ⟨e12, e13, K⟩ := K
      refine g_iast dX8_feed_103 e12 e13 ?_
      refine g_aload_n dX8_feed_104 rfl 0 rfl ?_
      refine g_dup dX8_feed_105 rfl ?_
      refine g_get (c := 8) (k := 11) (v := .int (hI (sI h b10 (hI h a0 11).toNatClampNeg ((y7 >>> (((24 - (8 * (x6 - x6 / 4 * 4))) : Int32) &&& 31)) &&& 255)) a0 11)) dX8_feed_106 fc_8 (by decide) (by decide) bw_1209 rfl (kkI e9) ?_
      refine g_iconst (v := 1) dX8_feed_109 (by decide) ?_
      refine g_iadd dX8_feed_110 ?_
      refine g_puti (c := 8) (k := 11) dX8_feed_111 fc_8 (by decide) (by decide) bw_1209 (Or.inl rfl) rfl (kkI e9) ?_
      refine g_iinc (v := (x6 + 1)) (lv' := [(0, .ref a0), (1, .int x1), (2, .int x2), (3, .int x3), (4, .int x4), (5, .int x5), (6, .int (x6 + 1)), (7, .int y7)]) dX8_feed_114 6 rfl (by rfl) (by decide) rfl ?_
      refine g_goto (tgt := 23) dX8_feed_117 (by decide) ?_
      exact Gm.sub [0, 1, 2, 3, 4, 5, 6] rfl K
    refine g_icmp_ge (tgt := 40) dX8_feed_33 (by decide) (fun c3 => ?_) (fun c3 => ?_)
    · refine g_iload dX8_feed_40 6 rfl ?_
      refine g_bipush (v := 8) dX8_feed_42 (by decide) ?_
      refine g_icmp_ge (tgt := 51) dX8_feed_44 (by decide) (fun c4 => ?_) (fun c4 => ?_)
      · refine g_iload dX8_feed_51 6 rfl ?_
        refine g_bipush (v := 12) dX8_feed_53 (by decide) ?_
        refine g_icmp_ge (tgt := 62) dX8_feed_55 (by decide) (fun c5 => ?_) (fun c5 => ?_)
        · refine g_iload dX8_feed_62 6 rfl ?_
          refine g_bipush (v := 16) dX8_feed_64 (by decide) ?_
          refine g_icmp_ge (tgt := 74) dX8_feed_66 (by decide) (fun c6 => ?_) (fun c6 => ?_)
          · refine g_iload dX8_feed_74 5 rfl ?_
            first | (simp only [if_pos c3, if_pos c4, if_pos c5, if_pos c6] at KJ; exact KJ) | (simp only [if_pos c3, if_pos c4, if_pos c5, if_pos c6, ite_true, ite_false, eq_self] at KJ; exact KJ) | (simp only [if_pos c3, if_pos c4, if_pos c5, if_pos c6] at KJ ⊢; exact KJ) | exact KJ
          · refine g_iload dX8_feed_69 4 rfl ?_
            refine g_goto (tgt := 76) dX8_feed_71 (by decide) ?_
            first | (simp only [if_pos c3, if_pos c4, if_pos c5, if_neg c6] at KJ; exact KJ) | (simp only [if_pos c3, if_pos c4, if_pos c5, if_neg c6, ite_true, ite_false, eq_self] at KJ; exact KJ) | (simp only [if_pos c3, if_pos c4, if_pos c5, if_neg c6] at KJ ⊢; exact KJ) | exact KJ
        · refine g_iload_n dX8_feed_58 rfl 3 rfl ?_
          refine g_goto (tgt := 76) dX8_feed_59 (by decide) ?_
          first | (simp only [if_pos c3, if_pos c4, if_neg c5] at KJ; exact KJ) | (simp only [if_pos c3, if_pos c4, if_neg c5, ite_true, ite_false, eq_self] at KJ; exact KJ) | (simp only [if_pos c3, if_pos c4, if_neg c5] at KJ ⊢; exact KJ) | exact KJ
      · refine g_iload_n dX8_feed_47 rfl 2 rfl ?_
        refine g_goto (tgt := 76) dX8_feed_48 (by decide) ?_
        first | (simp only [if_pos c3, if_neg c4] at KJ; exact KJ) | (simp only [if_pos c3, if_neg c4, ite_true, ite_false, eq_self] at KJ; exact KJ) | (simp only [if_pos c3, if_neg c4] at KJ ⊢; exact KJ) | exact KJ
    · refine g_iload_n dX8_feed_36 rfl 1 rfl ?_
      refine g_goto (tgt := 76) dX8_feed_37 (by decide) ?_
      first | (simp only [if_neg c3] at KJ; exact KJ) | (simp only [if_neg c3, ite_true, ite_false, eq_self] at KJ; exact KJ) | (simp only [if_neg c3] at KJ ⊢; exact KJ) | exact KJ
theorem dX8_byteAt_0 : decode cX8_byteAt 0 = .ok (.iload_n 1, 1) := by decide +kernel
theorem dX8_byteAt_1 : decode cX8_byteAt 1 = .ok (.aload_n 0, 1) := by decide +kernel
theorem dX8_byteAt_2 : decode cX8_byteAt 2 = .ok (.getfield 110, 3) := by decide +kernel
theorem dX8_byteAt_5 : decode cX8_byteAt 5 = .ok (.if_icmp .ge 12, 3) := by decide +kernel
theorem dX8_byteAt_8 : decode cX8_byteAt 8 = .ok (.aload_n 0, 1) := by decide +kernel
theorem dX8_byteAt_9 : decode cX8_byteAt 9 = .ok (.getfield 54, 3) := by decide +kernel
theorem dX8_byteAt_12 : decode cX8_byteAt 12 = .ok (.iload_n 1, 1) := by decide +kernel
theorem dX8_byteAt_13 : decode cX8_byteAt 13 = .ok (.iaload, 1) := by decide +kernel
theorem dX8_byteAt_14 : decode cX8_byteAt 14 = .ok (.goto 4, 3) := by decide +kernel
theorem dX8_byteAt_17 : decode cX8_byteAt 17 = .ok (.iconst (-1), 1) := by decide +kernel
theorem dX8_byteAt_18 : decode cX8_byteAt 18 = .ok (.ireturn, 1) := by decide +kernel
set_option maxRecDepth 20000 in
set_option maxHeartbeats 4000000 in
theorem vX8_byteAt_0 {l : Launch} {x : CX} {a0 : Nat} {x1 : Int32} {h : PH} {rc rs n0 : Nat} {Q : Option Value → PH → Prop} {X : String → PH → Prop}
    (K : ((hK h a0).1 = 8) ∧ (((hI h a0 13) ≤ x1 → Q (some (.int (-1))) h) ∧ (¬ (hI h a0 13) ≤ x1 → ∃ b3, (hR h a0 10 = some b3) ∧ ((hK h b3).1 = 100) ∧ (vp_in x1 (hK h b3).2) ∧ Q (some (.int (hI h b3 x1.toNatClampNeg))) h))) :
    Gm l x mX8_byteAt 0 0 [(0, .ref a0), (1, .int x1)] [] h rc rs n0 Q X := by
  refine g_iload_n dX8_byteAt_0 rfl 1 rfl ?_
  refine g_aload_n dX8_byteAt_1 rfl 0 rfl ?_
  obtain ⟨e1, K⟩ := K
  refine g_get (c := 8) (k := 13) (v := .int (hI h a0 13)) dX8_byteAt_2 fc_8 (by decide) (by decide) bw_1211 rfl e1 ?_
  refine g_icmp_ge (tgt := 17) dX8_byteAt_5 (by decide) (fun c2 => ?_) (fun c2 => ?_)
  · replace K := K.1 c2
    refine g_iconst (v := (-1)) dX8_byteAt_17 (by decide) ?_
    exact g_iret dX8_byteAt_18 rfl K
  · replace K := K.2 c2
    refine g_aload_n dX8_byteAt_8 rfl 0 rfl ?_
    obtain ⟨b3, e4, K⟩ := K
    refine g_get (c := 8) (k := 10) (v := .ref b3) dX8_byteAt_9 fc_8 (by decide) (by decide) bw_1208 (congrArg pr e4) e1 ?_
    refine g_iload_n dX8_byteAt_12 rfl 1 rfl ?_
    obtain ⟨e5, e6, K⟩ := K
    refine g_iald dX8_byteAt_13 e5 e6 ?_
    refine g_goto (tgt := 18) dX8_byteAt_14 (by decide) ?_
    exact g_iret dX8_byteAt_18 rfl K
theorem dX8_isLetter_0 : decode cX8_isLetter 0 = .ok (.iload_n 0, 1) := by decide +kernel
theorem dX8_isLetter_1 : decode cX8_isLetter 1 = .ok (.bipush 97, 2) := by decide +kernel
theorem dX8_isLetter_3 : decode cX8_isLetter 3 = .ok (.if_icmp .lt 13, 3) := by decide +kernel
theorem dX8_isLetter_6 : decode cX8_isLetter 6 = .ok (.iload_n 0, 1) := by decide +kernel
theorem dX8_isLetter_7 : decode cX8_isLetter 7 = .ok (.bipush 122, 2) := by decide +kernel
theorem dX8_isLetter_9 : decode cX8_isLetter 9 = .ok (.if_icmp .gt 7, 3) := by decide +kernel
theorem dX8_isLetter_12 : decode cX8_isLetter 12 = .ok (.iconst 1, 1) := by decide +kernel
theorem dX8_isLetter_13 : decode cX8_isLetter 13 = .ok (.goto 4, 3) := by decide +kernel
theorem dX8_isLetter_16 : decode cX8_isLetter 16 = .ok (.iconst 0, 1) := by decide +kernel
theorem dX8_isLetter_17 : decode cX8_isLetter 17 = .ok (.ireturn, 1) := by decide +kernel
set_option maxRecDepth 20000 in
set_option maxHeartbeats 4000000 in
theorem vX8_isLetter_0 {l : Launch} {x : CX} {x0 : Int32} {h : PH} {rc rs n0 : Nat} {Q : Option Value → PH → Prop} {X : String → PH → Prop}
    (K : (((if x0 < 97 then 0 else (if 122 < x0 then 0 else 1 : Int32) : Int32) : Int32) = 0 ∨ ((if x0 < 97 then 0 else (if 122 < x0 then 0 else 1 : Int32) : Int32) : Int32) = 1) ∧ Q (some (.int (if x0 < 97 then 0 else (if 122 < x0 then 0 else 1 : Int32) : Int32))) h) :
    Gm l x mX8_isLetter 0 0 [(0, .int x0)] [] h rc rs n0 Q X := by
  refine g_iload_n dX8_isLetter_0 rfl 0 rfl ?_
  refine g_bipush (v := 97) dX8_isLetter_1 (by decide) ?_
  have KJ : Gm l x mX8_isLetter 0 17 [(0, .int x0)] [.int (if x0 < 97 then 0 else (if 122 < x0 then 0 else 1 : Int32) : Int32)] h rc rs n0 Q X := by
    exact g_zret dX8_isLetter_17 rfl K.1 K.2
  refine g_icmp_lt (tgt := 16) dX8_isLetter_3 (by decide) (fun c1 => ?_) (fun c1 => ?_)
  · refine g_iconst (v := 0) dX8_isLetter_16 (by decide) ?_
    first | (simp only [if_pos c1] at KJ; exact KJ) | (simp only [if_pos c1, ite_true, ite_false, eq_self] at KJ; exact KJ) | (simp only [if_pos c1] at KJ ⊢; exact KJ) | exact KJ
  · refine g_iload_n dX8_isLetter_6 rfl 0 rfl ?_
    refine g_bipush (v := 122) dX8_isLetter_7 (by decide) ?_
    refine g_icmp_gt (tgt := 16) dX8_isLetter_9 (by decide) (fun c2 => ?_) (fun c2 => ?_)
    · refine g_iconst (v := 0) dX8_isLetter_16 (by decide) ?_
      first | (simp only [if_neg c1, if_pos c2] at KJ; exact KJ) | (simp only [if_neg c1, if_pos c2, ite_true, ite_false, eq_self] at KJ; exact KJ) | (simp only [if_neg c1, if_pos c2] at KJ ⊢; exact KJ) | exact KJ
    · refine g_iconst (v := 1) dX8_isLetter_12 (by decide) ?_
      refine g_goto (tgt := 17) dX8_isLetter_13 (by decide) ?_
      first | (simp only [if_neg c1, if_neg c2] at KJ; exact KJ) | (simp only [if_neg c1, if_neg c2, ite_true, ite_false, eq_self] at KJ; exact KJ) | (simp only [if_neg c1, if_neg c2] at KJ ⊢; exact KJ) | exact KJ
theorem dX8_isDigit_0 : decode cX8_isDigit 0 = .ok (.iload_n 0, 1) := by decide +kernel
theorem dX8_isDigit_1 : decode cX8_isDigit 1 = .ok (.bipush 48, 2) := by decide +kernel
theorem dX8_isDigit_3 : decode cX8_isDigit 3 = .ok (.if_icmp .lt 13, 3) := by decide +kernel
theorem dX8_isDigit_6 : decode cX8_isDigit 6 = .ok (.iload_n 0, 1) := by decide +kernel
theorem dX8_isDigit_7 : decode cX8_isDigit 7 = .ok (.bipush 57, 2) := by decide +kernel
theorem dX8_isDigit_9 : decode cX8_isDigit 9 = .ok (.if_icmp .gt 7, 3) := by decide +kernel
theorem dX8_isDigit_12 : decode cX8_isDigit 12 = .ok (.iconst 1, 1) := by decide +kernel
theorem dX8_isDigit_13 : decode cX8_isDigit 13 = .ok (.goto 4, 3) := by decide +kernel
theorem dX8_isDigit_16 : decode cX8_isDigit 16 = .ok (.iconst 0, 1) := by decide +kernel
theorem dX8_isDigit_17 : decode cX8_isDigit 17 = .ok (.ireturn, 1) := by decide +kernel
set_option maxRecDepth 20000 in
set_option maxHeartbeats 4000000 in
theorem vX8_isDigit_0 {l : Launch} {x : CX} {x0 : Int32} {h : PH} {rc rs n0 : Nat} {Q : Option Value → PH → Prop} {X : String → PH → Prop}
    (K : (((if x0 < 48 then 0 else (if 57 < x0 then 0 else 1 : Int32) : Int32) : Int32) = 0 ∨ ((if x0 < 48 then 0 else (if 57 < x0 then 0 else 1 : Int32) : Int32) : Int32) = 1) ∧ Q (some (.int (if x0 < 48 then 0 else (if 57 < x0 then 0 else 1 : Int32) : Int32))) h) :
    Gm l x mX8_isDigit 0 0 [(0, .int x0)] [] h rc rs n0 Q X := by
  refine g_iload_n dX8_isDigit_0 rfl 0 rfl ?_
  refine g_bipush (v := 48) dX8_isDigit_1 (by decide) ?_
  have KJ : Gm l x mX8_isDigit 0 17 [(0, .int x0)] [.int (if x0 < 48 then 0 else (if 57 < x0 then 0 else 1 : Int32) : Int32)] h rc rs n0 Q X := by
    exact g_zret dX8_isDigit_17 rfl K.1 K.2
  refine g_icmp_lt (tgt := 16) dX8_isDigit_3 (by decide) (fun c1 => ?_) (fun c1 => ?_)
  · refine g_iconst (v := 0) dX8_isDigit_16 (by decide) ?_
    first | (simp only [if_pos c1] at KJ; exact KJ) | (simp only [if_pos c1, ite_true, ite_false, eq_self] at KJ; exact KJ) | (simp only [if_pos c1] at KJ ⊢; exact KJ) | exact KJ
  · refine g_iload_n dX8_isDigit_6 rfl 0 rfl ?_
    refine g_bipush (v := 57) dX8_isDigit_7 (by decide) ?_
    refine g_icmp_gt (tgt := 16) dX8_isDigit_9 (by decide) (fun c2 => ?_) (fun c2 => ?_)
    · refine g_iconst (v := 0) dX8_isDigit_16 (by decide) ?_
      first | (simp only [if_neg c1, if_pos c2] at KJ; exact KJ) | (simp only [if_neg c1, if_pos c2, ite_true, ite_false, eq_self] at KJ; exact KJ) | (simp only [if_neg c1, if_pos c2] at KJ ⊢; exact KJ) | exact KJ
    · refine g_iconst (v := 1) dX8_isDigit_12 (by decide) ?_
      refine g_goto (tgt := 17) dX8_isDigit_13 (by decide) ?_
      first | (simp only [if_neg c1, if_neg c2] at KJ; exact KJ) | (simp only [if_neg c1, if_neg c2, ite_true, ite_false, eq_self] at KJ; exact KJ) | (simp only [if_neg c1, if_neg c2] at KJ ⊢; exact KJ) | exact KJ
theorem dX8_wrong_0 : decode cX8_wrong 0 = .ok (.aload_n 0, 1) := by decide +kernel
theorem dX8_wrong_1 : decode cX8_wrong 1 = .ok (.getfield 146, 3) := by decide +kernel
theorem dX8_wrong_4 : decode cX8_wrong 4 = .ok (.ifCond .eq 4, 3) := by decide +kernel
theorem dX8_wrong_7 : decode cX8_wrong 7 = .ok (.return_, 1) := by decide +kernel
theorem dX8_wrong_8 : decode cX8_wrong 8 = .ok (.aload_n 0, 1) := by decide +kernel
theorem dX8_wrong_9 : decode cX8_wrong 9 = .ok (.iload_n 1, 1) := by decide +kernel
theorem dX8_wrong_10 : decode cX8_wrong 10 = .ok (.putfield 146, 3) := by decide +kernel
theorem dX8_wrong_13 : decode cX8_wrong 13 = .ok (.aload_n 0, 1) := by decide +kernel
theorem dX8_wrong_14 : decode cX8_wrong 14 = .ok (.aload_n 0, 1) := by decide +kernel
theorem dX8_wrong_15 : decode cX8_wrong 15 = .ok (.getfield 120, 3) := by decide +kernel
theorem dX8_wrong_18 : decode cX8_wrong 18 = .ok (.putfield 149, 3) := by decide +kernel
theorem dX8_wrong_21 : decode cX8_wrong 21 = .ok (.return_, 1) := by decide +kernel
set_option maxRecDepth 20000 in
set_option maxHeartbeats 4000000 in
theorem vX8_wrong_0 {l : Launch} {x : CX} {a0 : Nat} {x1 : Int32} {h : PH} {rc rs n0 : Nat} {Q : Option Value → PH → Prop} {X : String → PH → Prop}
    (K : ((hK h a0).1 = 8) ∧ (((hI h a0 18) = 0 → Q none (sI (sI h a0 18 x1) a0 19 (hI h a0 16))) ∧ (¬ (hI h a0 18) = 0 → Q none h))) :
    Gm l x mX8_wrong 0 0 [(0, .ref a0), (1, .int x1)] [] h rc rs n0 Q X := by
  refine g_aload_n dX8_wrong_0 rfl 0 rfl ?_
  obtain ⟨e1, K⟩ := K
  refine g_get (c := 8) (k := 18) (v := .int (hI h a0 18)) dX8_wrong_1 fc_8 (by decide) (by decide) bw_1216 rfl e1 ?_
  refine g_if_eq (tgt := 8) dX8_wrong_4 (by decide) (fun c2 => ?_) (fun c2 => ?_)
  · replace K := K.1 c2
    refine g_aload_n dX8_wrong_8 rfl 0 rfl ?_
    refine g_iload_n dX8_wrong_9 rfl 1 rfl ?_
    refine g_puti (c := 8) (k := 18) dX8_wrong_10 fc_8 (by decide) (by decide) bw_1216 (Or.inl rfl) rfl e1 ?_
    refine g_aload_n dX8_wrong_13 rfl 0 rfl ?_
    refine g_aload_n dX8_wrong_14 rfl 0 rfl ?_
    refine g_get (c := 8) (k := 16) (v := .int (hI h a0 16)) dX8_wrong_15 fc_8 (by decide) (by decide) bw_1214 (congrArg Value.int ((skI (by decide)).trans rfl)) (kkI e1) ?_
    refine g_puti (c := 8) (k := 19) dX8_wrong_18 fc_8 (by decide) (by decide) bw_1217 (Or.inl rfl) rfl (kkI e1) ?_
    exact g_vret dX8_wrong_21 rfl K
  · replace K := K.2 c2
    exact g_vret dX8_wrong_7 rfl K
theorem dX8_fault_0 : decode cX8_fault 0 = .ok (.aload_n 0, 1) := by decide +kernel
theorem dX8_fault_1 : decode cX8_fault 1 = .ok (.iconst 0, 1) := by decide +kernel
theorem dX8_fault_2 : decode cX8_fault 2 = .ok (.putfield 104, 3) := by decide +kernel
theorem dX8_fault_5 : decode cX8_fault 5 = .ok (.aload_n 0, 1) := by decide +kernel
theorem dX8_fault_6 : decode cX8_fault 6 = .ok (.getfield 57, 3) := by decide +kernel
theorem dX8_fault_9 : decode cX8_fault 9 = .ok (.ireturn, 1) := by decide +kernel
set_option maxRecDepth 20000 in
set_option maxHeartbeats 4000000 in
theorem vX8_fault_0 {l : Launch} {x : CX} {a0 : Nat} {h : PH} {rc rs n0 : Nat} {Q : Option Value → PH → Prop} {X : String → PH → Prop}
    (K : ((hK h a0).1 = 8) ∧ Q (some (.int (hI h a0 20))) (sI h a0 1 0)) :
    Gm l x mX8_fault 0 0 [(0, .ref a0)] [] h rc rs n0 Q X := by
  refine g_aload_n dX8_fault_0 rfl 0 rfl ?_
  refine g_iconst (v := 0) dX8_fault_1 (by decide) ?_
  obtain ⟨e1, K⟩ := K
  refine g_puti (c := 8) (k := 1) dX8_fault_2 fc_8 (by decide) (by decide) bw_1199 (Or.inl rfl) rfl e1 ?_
  refine g_aload_n dX8_fault_5 rfl 0 rfl ?_
  refine g_get (c := 8) (k := 20) (v := .int (hI h a0 20)) dX8_fault_6 fc_8 (by decide) (by decide) bw_1218 (congrArg Value.int ((skI (by decide)).trans rfl)) (kkI e1) ?_
  exact g_iret dX8_fault_9 rfl K
theorem dX8_copyTo_0 : decode cX8_copyTo 0 = .ok (.iconst 0, 1) := by decide +kernel
theorem dX8_copyTo_1 : decode cX8_copyTo 1 = .ok (.istore_n 2, 1) := by decide +kernel
theorem dX8_copyTo_2 : decode cX8_copyTo 2 = .ok (.iload_n 2, 1) := by decide +kernel
theorem dX8_copyTo_3 : decode cX8_copyTo 3 = .ok (.aload_n 0, 1) := by decide +kernel
theorem dX8_copyTo_4 : decode cX8_copyTo 4 = .ok (.arraylength, 1) := by decide +kernel
theorem dX8_copyTo_5 : decode cX8_copyTo 5 = .ok (.if_icmp .ge 15, 3) := by decide +kernel
theorem dX8_copyTo_8 : decode cX8_copyTo 8 = .ok (.aload_n 0, 1) := by decide +kernel
theorem dX8_copyTo_9 : decode cX8_copyTo 9 = .ok (.iload_n 2, 1) := by decide +kernel
theorem dX8_copyTo_10 : decode cX8_copyTo 10 = .ok (.aload_n 1, 1) := by decide +kernel
theorem dX8_copyTo_11 : decode cX8_copyTo 11 = .ok (.iload_n 2, 1) := by decide +kernel
theorem dX8_copyTo_12 : decode cX8_copyTo 12 = .ok (.iaload, 1) := by decide +kernel
theorem dX8_copyTo_13 : decode cX8_copyTo 13 = .ok (.iastore, 1) := by decide +kernel
theorem dX8_copyTo_14 : decode cX8_copyTo 14 = .ok (.iinc 2 1, 3) := by decide +kernel
theorem dX8_copyTo_17 : decode cX8_copyTo 17 = .ok (.goto (-15), 3) := by decide +kernel
theorem dX8_copyTo_20 : decode cX8_copyTo 20 = .ok (.return_, 1) := by decide +kernel
set_option maxRecDepth 20000 in
set_option maxHeartbeats 4000000 in
theorem vX8_copyTo_0 {l : Launch} {x : CX} {a0 : Nat} {a1 : Nat} {h : PH} {rc rs n0 : Nat} {Q : Option Value → PH → Prop} {X : String → PH → Prop}
    (K : Gm l x mX8_copyTo 0 2 [(0, .ref a0), (1, .ref a1), (2, .int 0)] [] h rc rs n0 Q X) :
    Gm l x mX8_copyTo 0 0 [(0, .ref a0), (1, .ref a1)] [] h rc rs n0 Q X := by
  refine g_iconst (v := 0) dX8_copyTo_0 (by decide) ?_
  refine g_istore_n (lv' := [(0, .ref a0), (1, .ref a1), (2, .int 0)]) dX8_copyTo_1 rfl (by decide) rfl ?_
  exact K
set_option maxRecDepth 20000 in
set_option maxHeartbeats 4000000 in
theorem vX8_copyTo_2 {l : Launch} {x : CX} {a0 : Nat} {a1 : Nat} {x2 : Int32} {h : PH} {rc rs n0 : Nat} {Q : Option Value → PH → Prop} {X : String → PH → Prop}
    (K : ((hK h a0).1 = 100) ∧ (((Int32.ofNat (hK h a0).2) ≤ x2 → Q none h) ∧ (¬ (Int32.ofNat (hK h a0).2) ≤ x2 → ((hK h a1).1 = 100) ∧ (vp_in x2 (hK h a1).2) ∧ (vp_in x2 (hK h a0).2) ∧ Gm l x mX8_copyTo 0 2 [(0, .ref a0), (1, .ref a1), (2, .int (x2 + 1))] [] (sI h a0 x2.toNatClampNeg (hI h a1 x2.toNatClampNeg)) rc rs n0 Q X))) :
    Gm l x mX8_copyTo 0 2 [(0, .ref a0), (1, .ref a1), (2, .int x2)] [] h rc rs n0 Q X := by
  refine g_iload_n dX8_copyTo_2 rfl 2 rfl ?_
  refine g_aload_n dX8_copyTo_3 rfl 0 rfl ?_
  obtain ⟨e1, K⟩ := K
  refine g_alen (t := 0) dX8_copyTo_4 (by decide) e1 rfl ?_
  refine g_icmp_ge (tgt := 20) dX8_copyTo_5 (by decide) (fun c2 => ?_) (fun c2 => ?_)
  · replace K := K.1 c2
    exact g_vret dX8_copyTo_20 rfl K
  · replace K := K.2 c2
    refine g_aload_n dX8_copyTo_8 rfl 0 rfl ?_
    refine g_iload_n dX8_copyTo_9 rfl 2 rfl ?_
    refine g_aload_n dX8_copyTo_10 rfl 1 rfl ?_
    refine g_iload_n dX8_copyTo_11 rfl 2 rfl ?_
    obtain ⟨e3, e4, K⟩ := K
    refine g_iald dX8_copyTo_12 e3 e4 ?_
    obtain ⟨e5, K⟩ := K
    refine g_iast dX8_copyTo_13 e1 e5 ?_
    refine g_iinc (v := (x2 + 1)) (lv' := [(0, .ref a0), (1, .ref a1), (2, .int (x2 + 1))]) dX8_copyTo_14 2 rfl (by rfl) (by decide) rfl ?_
    refine g_goto (tgt := 2) dX8_copyTo_17 (by decide) ?_
    exact K
theorem dX8_carOf_0 : decode cX8_carOf 0 = .ok (.aload_n 0, 1) := by decide +kernel
theorem dX8_carOf_1 : decode cX8_carOf 1 = .ok (.getfield 29, 3) := by decide +kernel
theorem dX8_carOf_4 : decode cX8_carOf 4 = .ok (.bipush 16, 2) := by decide +kernel
theorem dX8_carOf_6 : decode cX8_carOf 6 = .ok (.bipush 8, 2) := by decide +kernel
theorem dX8_carOf_8 : decode cX8_carOf 8 = .ok (.iload_n 1, 1) := by decide +kernel
theorem dX8_carOf_9 : decode cX8_carOf 9 = .ok (.imul, 1) := by decide +kernel
theorem dX8_carOf_10 : decode cX8_carOf 10 = .ok (.iadd, 1) := by decide +kernel
theorem dX8_carOf_11 : decode cX8_carOf 11 = .ok (.iload_n 2, 1) := by decide +kernel
theorem dX8_carOf_12 : decode cX8_carOf 12 = .ok (.iadd, 1) := by decide +kernel
theorem dX8_carOf_13 : decode cX8_carOf 13 = .ok (.iaload, 1) := by decide +kernel
theorem dX8_carOf_14 : decode cX8_carOf 14 = .ok (.ireturn, 1) := by decide +kernel
set_option maxRecDepth 20000 in
set_option maxHeartbeats 4000000 in
theorem vX8_carOf_0 {l : Launch} {x : CX} {a0 : Nat} {x1 : Int32} {x2 : Int32} {h : PH} {rc rs n0 : Nat} {Q : Option Value → PH → Prop} {X : String → PH → Prop}
    (K : ((hK h a0).1 = 8) ∧ ∃ b2, (hR h a0 2 = some b2) ∧ ((hK h b2).1 = 100) ∧ (vp_in ((16 + (8 * x1)) + x2) (hK h b2).2) ∧ Q (some (.int (hI h b2 ((16 + (8 * x1)) + x2).toNatClampNeg))) h) :
    Gm l x mX8_carOf 0 0 [(0, .ref a0), (1, .int x1), (2, .int x2)] [] h rc rs n0 Q X := by
  refine g_aload_n dX8_carOf_0 rfl 0 rfl ?_
  obtain ⟨e1, b2, e3, K⟩ := K
  refine g_get (c := 8) (k := 2) (v := .ref b2) dX8_carOf_1 fc_8 (by decide) (by decide) bw_1200 (congrArg pr e3) e1 ?_
  refine g_bipush (v := 16) dX8_carOf_4 (by decide) ?_
  refine g_bipush (v := 8) dX8_carOf_6 (by decide) ?_
  refine g_iload_n dX8_carOf_8 rfl 1 rfl ?_
  refine g_imul dX8_carOf_9 ?_
  refine g_iadd dX8_carOf_10 ?_
  refine g_iload_n dX8_carOf_11 rfl 2 rfl ?_
  refine g_iadd dX8_carOf_12 ?_
  obtain ⟨e4, e5, K⟩ := K
  refine g_iald dX8_carOf_13 e4 e5 ?_
  exact g_iret dX8_carOf_14 rfl K
theorem dX8_putCar_0 : decode cX8_putCar 0 = .ok (.aload_n 0, 1) := by decide +kernel
theorem dX8_putCar_1 : decode cX8_putCar 1 = .ok (.getfield 29, 3) := by decide +kernel
theorem dX8_putCar_4 : decode cX8_putCar 4 = .ok (.bipush 16, 2) := by decide +kernel
theorem dX8_putCar_6 : decode cX8_putCar 6 = .ok (.bipush 8, 2) := by decide +kernel
theorem dX8_putCar_8 : decode cX8_putCar 8 = .ok (.iload_n 1, 1) := by decide +kernel
theorem dX8_putCar_9 : decode cX8_putCar 9 = .ok (.imul, 1) := by decide +kernel
theorem dX8_putCar_10 : decode cX8_putCar 10 = .ok (.iadd, 1) := by decide +kernel
theorem dX8_putCar_11 : decode cX8_putCar 11 = .ok (.iload_n 2, 1) := by decide +kernel
theorem dX8_putCar_12 : decode cX8_putCar 12 = .ok (.iadd, 1) := by decide +kernel
theorem dX8_putCar_13 : decode cX8_putCar 13 = .ok (.iload_n 3, 1) := by decide +kernel
theorem dX8_putCar_14 : decode cX8_putCar 14 = .ok (.iastore, 1) := by decide +kernel
theorem dX8_putCar_15 : decode cX8_putCar 15 = .ok (.return_, 1) := by decide +kernel
set_option maxRecDepth 20000 in
set_option maxHeartbeats 4000000 in
theorem vX8_putCar_0 {l : Launch} {x : CX} {a0 : Nat} {x1 : Int32} {x2 : Int32} {x3 : Int32} {h : PH} {rc rs n0 : Nat} {Q : Option Value → PH → Prop} {X : String → PH → Prop}
    (K : ((hK h a0).1 = 8) ∧ ∃ b2, (hR h a0 2 = some b2) ∧ ((hK h b2).1 = 100) ∧ (vp_in ((16 + (8 * x1)) + x2) (hK h b2).2) ∧ Q none (sI h b2 ((16 + (8 * x1)) + x2).toNatClampNeg x3)) :
    Gm l x mX8_putCar 0 0 [(0, .ref a0), (1, .int x1), (2, .int x2), (3, .int x3)] [] h rc rs n0 Q X := by
  refine g_aload_n dX8_putCar_0 rfl 0 rfl ?_
  obtain ⟨e1, b2, e3, K⟩ := K
  refine g_get (c := 8) (k := 2) (v := .ref b2) dX8_putCar_1 fc_8 (by decide) (by decide) bw_1200 (congrArg pr e3) e1 ?_
  refine g_bipush (v := 16) dX8_putCar_4 (by decide) ?_
  refine g_bipush (v := 8) dX8_putCar_6 (by decide) ?_
  refine g_iload_n dX8_putCar_8 rfl 1 rfl ?_
  refine g_imul dX8_putCar_9 ?_
  refine g_iadd dX8_putCar_10 ?_
  refine g_iload_n dX8_putCar_11 rfl 2 rfl ?_
  refine g_iadd dX8_putCar_12 ?_
  refine g_iload_n dX8_putCar_13 rfl 3 rfl ?_
  obtain ⟨e4, e5, K⟩ := K
  refine g_iast dX8_putCar_14 e4 e5 ?_
  exact g_vret dX8_putCar_15 rfl K
theorem dX8_of_0 : decode cX8_of 0 = .ok (.aload_n 0, 1) := by decide +kernel
theorem dX8_of_1 : decode cX8_of 1 = .ok (.getfield 29, 3) := by decide +kernel
theorem dX8_of_4 : decode cX8_of 4 = .ok (.bipush 48, 2) := by decide +kernel
theorem dX8_of_6 : decode cX8_of 6 = .ok (.bipush 9, 2) := by decide +kernel
theorem dX8_of_8 : decode cX8_of 8 = .ok (.iload_n 1, 1) := by decide +kernel
theorem dX8_of_9 : decode cX8_of 9 = .ok (.imul, 1) := by decide +kernel
theorem dX8_of_10 : decode cX8_of 10 = .ok (.iadd, 1) := by decide +kernel
theorem dX8_of_11 : decode cX8_of 11 = .ok (.iload_n 2, 1) := by decide +kernel
theorem dX8_of_12 : decode cX8_of 12 = .ok (.iadd, 1) := by decide +kernel
theorem dX8_of_13 : decode cX8_of 13 = .ok (.iaload, 1) := by decide +kernel
theorem dX8_of_14 : decode cX8_of 14 = .ok (.ireturn, 1) := by decide +kernel
set_option maxRecDepth 20000 in
set_option maxHeartbeats 4000000 in
theorem vX8_of_0 {l : Launch} {x : CX} {a0 : Nat} {x1 : Int32} {x2 : Int32} {h : PH} {rc rs n0 : Nat} {Q : Option Value → PH → Prop} {X : String → PH → Prop}
    (K : ((hK h a0).1 = 8) ∧ ∃ b2, (hR h a0 2 = some b2) ∧ ((hK h b2).1 = 100) ∧ (vp_in ((48 + (9 * x1)) + x2) (hK h b2).2) ∧ Q (some (.int (hI h b2 ((48 + (9 * x1)) + x2).toNatClampNeg))) h) :
    Gm l x mX8_of 0 0 [(0, .ref a0), (1, .int x1), (2, .int x2)] [] h rc rs n0 Q X := by
  refine g_aload_n dX8_of_0 rfl 0 rfl ?_
  obtain ⟨e1, b2, e3, K⟩ := K
  refine g_get (c := 8) (k := 2) (v := .ref b2) dX8_of_1 fc_8 (by decide) (by decide) bw_1200 (congrArg pr e3) e1 ?_
  refine g_bipush (v := 48) dX8_of_4 (by decide) ?_
  refine g_bipush (v := 9) dX8_of_6 (by decide) ?_
  refine g_iload_n dX8_of_8 rfl 1 rfl ?_
  refine g_imul dX8_of_9 ?_
  refine g_iadd dX8_of_10 ?_
  refine g_iload_n dX8_of_11 rfl 2 rfl ?_
  refine g_iadd dX8_of_12 ?_
  obtain ⟨e4, e5, K⟩ := K
  refine g_iald dX8_of_13 e4 e5 ?_
  exact g_iret dX8_of_14 rfl K
theorem dX8_put_0 : decode cX8_put 0 = .ok (.aload_n 0, 1) := by decide +kernel
theorem dX8_put_1 : decode cX8_put 1 = .ok (.getfield 29, 3) := by decide +kernel
theorem dX8_put_4 : decode cX8_put 4 = .ok (.bipush 48, 2) := by decide +kernel
theorem dX8_put_6 : decode cX8_put 6 = .ok (.bipush 9, 2) := by decide +kernel
theorem dX8_put_8 : decode cX8_put 8 = .ok (.iload_n 1, 1) := by decide +kernel
theorem dX8_put_9 : decode cX8_put 9 = .ok (.imul, 1) := by decide +kernel
theorem dX8_put_10 : decode cX8_put 10 = .ok (.iadd, 1) := by decide +kernel
theorem dX8_put_11 : decode cX8_put 11 = .ok (.iload_n 2, 1) := by decide +kernel
theorem dX8_put_12 : decode cX8_put 12 = .ok (.iadd, 1) := by decide +kernel
theorem dX8_put_13 : decode cX8_put 13 = .ok (.iload_n 3, 1) := by decide +kernel
theorem dX8_put_14 : decode cX8_put 14 = .ok (.iastore, 1) := by decide +kernel
theorem dX8_put_15 : decode cX8_put 15 = .ok (.return_, 1) := by decide +kernel
set_option maxRecDepth 20000 in
set_option maxHeartbeats 4000000 in
theorem vX8_put_0 {l : Launch} {x : CX} {a0 : Nat} {x1 : Int32} {x2 : Int32} {x3 : Int32} {h : PH} {rc rs n0 : Nat} {Q : Option Value → PH → Prop} {X : String → PH → Prop}
    (K : ((hK h a0).1 = 8) ∧ ∃ b2, (hR h a0 2 = some b2) ∧ ((hK h b2).1 = 100) ∧ (vp_in ((48 + (9 * x1)) + x2) (hK h b2).2) ∧ Q none (sI h b2 ((48 + (9 * x1)) + x2).toNatClampNeg x3)) :
    Gm l x mX8_put 0 0 [(0, .ref a0), (1, .int x1), (2, .int x2), (3, .int x3)] [] h rc rs n0 Q X := by
  refine g_aload_n dX8_put_0 rfl 0 rfl ?_
  obtain ⟨e1, b2, e3, K⟩ := K
  refine g_get (c := 8) (k := 2) (v := .ref b2) dX8_put_1 fc_8 (by decide) (by decide) bw_1200 (congrArg pr e3) e1 ?_
  refine g_bipush (v := 48) dX8_put_4 (by decide) ?_
  refine g_bipush (v := 9) dX8_put_6 (by decide) ?_
  refine g_iload_n dX8_put_8 rfl 1 rfl ?_
  refine g_imul dX8_put_9 ?_
  refine g_iadd dX8_put_10 ?_
  refine g_iload_n dX8_put_11 rfl 2 rfl ?_
  refine g_iadd dX8_put_12 ?_
  refine g_iload_n dX8_put_13 rfl 3 rfl ?_
  obtain ⟨e4, e5, K⟩ := K
  refine g_iast dX8_put_14 e4 e5 ?_
  exact g_vret dX8_put_15 rfl K
theorem dX8_takes_0 : decode cX8_takes 0 = .ok (.aload_n 0, 1) := by decide +kernel
theorem dX8_takes_1 : decode cX8_takes 1 = .ok (.getfield 42, 3) := by decide +kernel
theorem dX8_takes_4 : decode cX8_takes 4 = .ok (.iconst 3, 1) := by decide +kernel
theorem dX8_takes_5 : decode cX8_takes 5 = .ok (.iload_n 1, 1) := by decide +kernel
theorem dX8_takes_6 : decode cX8_takes 6 = .ok (.imul, 1) := by decide +kernel
theorem dX8_takes_7 : decode cX8_takes 7 = .ok (.iconst 2, 1) := by decide +kernel
theorem dX8_takes_8 : decode cX8_takes 8 = .ok (.iadd, 1) := by decide +kernel
theorem dX8_takes_9 : decode cX8_takes 9 = .ok (.iaload, 1) := by decide +kernel
theorem dX8_takes_10 : decode cX8_takes 10 = .ok (.ifCond .eq 17, 3) := by decide +kernel
theorem dX8_takes_13 : decode cX8_takes 13 = .ok (.aload_n 0, 1) := by decide +kernel
theorem dX8_takes_14 : decode cX8_takes 14 = .ok (.getfield 42, 3) := by decide +kernel
theorem dX8_takes_17 : decode cX8_takes 17 = .ok (.iconst 3, 1) := by decide +kernel
theorem dX8_takes_18 : decode cX8_takes 18 = .ok (.iload_n 1, 1) := by decide +kernel
theorem dX8_takes_19 : decode cX8_takes 19 = .ok (.imul, 1) := by decide +kernel
theorem dX8_takes_20 : decode cX8_takes 20 = .ok (.iconst 2, 1) := by decide +kernel
theorem dX8_takes_21 : decode cX8_takes 21 = .ok (.iadd, 1) := by decide +kernel
theorem dX8_takes_22 : decode cX8_takes 22 = .ok (.iaload, 1) := by decide +kernel
theorem dX8_takes_23 : decode cX8_takes 23 = .ok (.iload_n 2, 1) := by decide +kernel
theorem dX8_takes_24 : decode cX8_takes 24 = .ok (.if_icmp .ne 7, 3) := by decide +kernel
theorem dX8_takes_27 : decode cX8_takes 27 = .ok (.iconst 1, 1) := by decide +kernel
theorem dX8_takes_28 : decode cX8_takes 28 = .ok (.goto 4, 3) := by decide +kernel
theorem dX8_takes_31 : decode cX8_takes 31 = .ok (.iconst 0, 1) := by decide +kernel
theorem dX8_takes_32 : decode cX8_takes 32 = .ok (.ireturn, 1) := by decide +kernel
set_option maxRecDepth 20000 in
set_option maxHeartbeats 4000000 in
theorem vX8_takes_0 {l : Launch} {x : CX} {a0 : Nat} {x1 : Int32} {x2 : Int32} {h : PH} {rc rs n0 : Nat} {Q : Option Value → PH → Prop} {X : String → PH → Prop}
    (K : ((hK h a0).1 = 8) ∧ ∃ b2, (hR h a0 6 = some b2) ∧ ((hK h b2).1 = 100) ∧ (vp_in ((3 * x1) + 2) (hK h b2).2) ∧ (((hI h b2 ((3 * x1) + 2).toNatClampNeg) = 0 → ((1 : Int32) = 0 ∨ (1 : Int32) = 1) ∧ Q (some (.int 1)) h) ∧ (¬ (hI h b2 ((3 * x1) + 2).toNatClampNeg) = 0 → (vp_in ((3 * x1) + 2) (hK h b2).2) ∧ (((if (hI h b2 ((3 * x1) + 2).toNatClampNeg) = x2 then 1 else 0 : Int32) : Int32) = 0 ∨ ((if (hI h b2 ((3 * x1) + 2).toNatClampNeg) = x2 then 1 else 0 : Int32) : Int32) = 1) ∧ Q (some (.int (if (hI h b2 ((3 * x1) + 2).toNatClampNeg) = x2 then 1 else 0 : Int32))) h))) :
    Gm l x mX8_takes 0 0 [(0, .ref a0), (1, .int x1), (2, .int x2)] [] h rc rs n0 Q X := by
  refine g_aload_n dX8_takes_0 rfl 0 rfl ?_
  obtain ⟨e1, b2, e3, K⟩ := K
  refine g_get (c := 8) (k := 6) (v := .ref b2) dX8_takes_1 fc_8 (by decide) (by decide) bw_1204 (congrArg pr e3) e1 ?_
  refine g_iconst (v := 3) dX8_takes_4 (by decide) ?_
  refine g_iload_n dX8_takes_5 rfl 1 rfl ?_
  refine g_imul dX8_takes_6 ?_
  refine g_iconst (v := 2) dX8_takes_7 (by decide) ?_
  refine g_iadd dX8_takes_8 ?_
  obtain ⟨e4, e5, K⟩ := K
  refine g_iald dX8_takes_9 e4 e5 ?_
  refine g_if_eq (tgt := 27) dX8_takes_10 (by decide) (fun c6 => ?_) (fun c6 => ?_)
  · replace K := K.1 c6
    refine g_iconst (v := 1) dX8_takes_27 (by decide) ?_
    refine g_goto (tgt := 32) dX8_takes_28 (by decide) ?_
    exact g_zret dX8_takes_32 rfl K.1 K.2
  · replace K := K.2 c6
    refine g_aload_n dX8_takes_13 rfl 0 rfl ?_
    refine g_get (c := 8) (k := 6) (v := .ref b2) dX8_takes_14 fc_8 (by decide) (by decide) bw_1204 (congrArg pr e3) e1 ?_
    refine g_iconst (v := 3) dX8_takes_17 (by decide) ?_
    refine g_iload_n dX8_takes_18 rfl 1 rfl ?_
    refine g_imul dX8_takes_19 ?_
    refine g_iconst (v := 2) dX8_takes_20 (by decide) ?_
    refine g_iadd dX8_takes_21 ?_
    obtain ⟨e7, K⟩ := K
    refine g_iald dX8_takes_22 e4 e7 ?_
    refine g_iload_n dX8_takes_23 rfl 2 rfl ?_
    have KJ : Gm l x mX8_takes 0 32 [(0, .ref a0), (1, .int x1), (2, .int x2)] [.int (if (hI h b2 ((3 * x1) + 2).toNatClampNeg) = x2 then 1 else 0 : Int32)] h rc rs n0 Q X := by
      exact g_zret dX8_takes_32 rfl K.1 K.2
    refine g_icmp_ne (tgt := 31) dX8_takes_24 (by decide) (fun c8 => ?_) (fun c8 => ?_)
    · refine g_iconst (v := 0) dX8_takes_31 (by decide) ?_
      first | (simp only [if_neg c8] at KJ; exact KJ) | (simp only [if_neg c8, ite_true, ite_false, eq_self] at KJ; exact KJ) | (simp only [if_neg c8] at KJ ⊢; exact KJ) | exact KJ
    · refine g_iconst (v := 1) dX8_takes_27 (by decide) ?_
      refine g_goto (tgt := 32) dX8_takes_28 (by decide) ?_
      first | (simp only [if_pos c8] at KJ; exact KJ) | (simp only [if_pos c8, ite_true, ite_false, eq_self] at KJ; exact KJ) | (simp only [if_pos c8] at KJ ⊢; exact KJ) | exact KJ
theorem dX8_callAt_0 : decode cX8_callAt 0 = .ok (.sipush 264, 3) := by decide +kernel
theorem dX8_callAt_3 : decode cX8_callAt 3 = .ok (.iconst 4, 1) := by decide +kernel
theorem dX8_callAt_4 : decode cX8_callAt 4 = .ok (.iload_n 0, 1) := by decide +kernel
theorem dX8_callAt_5 : decode cX8_callAt 5 = .ok (.imul, 1) := by decide +kernel
theorem dX8_callAt_6 : decode cX8_callAt 6 = .ok (.iadd, 1) := by decide +kernel
theorem dX8_callAt_7 : decode cX8_callAt 7 = .ok (.iload_n 1, 1) := by decide +kernel
theorem dX8_callAt_8 : decode cX8_callAt 8 = .ok (.ifCond .le 7, 3) := by decide +kernel
theorem dX8_callAt_11 : decode cX8_callAt 11 = .ok (.iconst 0, 1) := by decide +kernel
theorem dX8_callAt_12 : decode cX8_callAt 12 = .ok (.goto 4, 3) := by decide +kernel
theorem dX8_callAt_15 : decode cX8_callAt 15 = .ok (.iconst 2, 1) := by decide +kernel
theorem dX8_callAt_16 : decode cX8_callAt 16 = .ok (.iadd, 1) := by decide +kernel
theorem dX8_callAt_17 : decode cX8_callAt 17 = .ok (.iload_n 2, 1) := by decide +kernel
theorem dX8_callAt_18 : decode cX8_callAt 18 = .ok (.iadd, 1) := by decide +kernel
theorem dX8_callAt_19 : decode cX8_callAt 19 = .ok (.iconst 1, 1) := by decide +kernel
theorem dX8_callAt_20 : decode cX8_callAt 20 = .ok (.isub, 1) := by decide +kernel
theorem dX8_callAt_21 : decode cX8_callAt 21 = .ok (.ireturn, 1) := by decide +kernel
set_option maxRecDepth 20000 in
set_option maxHeartbeats 4000000 in
theorem vX8_callAt_0 {l : Launch} {x : CX} {x0 : Int32} {x1 : Int32} {x2 : Int32} {h : PH} {rc rs n0 : Nat} {Q : Option Value → PH → Prop} {X : String → PH → Prop}
    (K : Q (some (.int ((((264 + (4 * x0)) + (if x1 ≤ 0 then 2 else 0 : Int32)) + x2) - 1))) h) :
    Gm l x mX8_callAt 0 0 [(0, .int x0), (1, .int x1), (2, .int x2)] [] h rc rs n0 Q X := by
  refine g_sipush (v := 264) dX8_callAt_0 (by decide) ?_
  refine g_iconst (v := 4) dX8_callAt_3 (by decide) ?_
  refine g_iload_n dX8_callAt_4 rfl 0 rfl ?_
  refine g_imul dX8_callAt_5 ?_
  refine g_iadd dX8_callAt_6 ?_
  refine g_iload_n dX8_callAt_7 rfl 1 rfl ?_
  have KJ : Gm l x mX8_callAt 0 16 [(0, .int x0), (1, .int x1), (2, .int x2)] [.int (if x1 ≤ 0 then 2 else 0 : Int32), .int (264 + (4 * x0))] h rc rs n0 Q X := by
    refine g_iadd dX8_callAt_16 ?_
    refine g_iload_n dX8_callAt_17 rfl 2 rfl ?_
    refine g_iadd dX8_callAt_18 ?_
    refine g_iconst (v := 1) dX8_callAt_19 (by decide) ?_
    refine g_isub dX8_callAt_20 ?_
    exact g_iret dX8_callAt_21 rfl K
  refine g_if_le (tgt := 15) dX8_callAt_8 (by decide) (fun c1 => ?_) (fun c1 => ?_)
  · refine g_iconst (v := 2) dX8_callAt_15 (by decide) ?_
    first | (simp only [if_pos c1] at KJ; exact KJ) | (simp only [if_pos c1, ite_true, ite_false, eq_self] at KJ; exact KJ) | (simp only [if_pos c1] at KJ ⊢; exact KJ) | exact KJ
  · refine g_iconst (v := 0) dX8_callAt_11 (by decide) ?_
    refine g_goto (tgt := 16) dX8_callAt_12 (by decide) ?_
    first | (simp only [if_neg c1] at KJ; exact KJ) | (simp only [if_neg c1, ite_true, ite_false, eq_self] at KJ; exact KJ) | (simp only [if_neg c1] at KJ ⊢; exact KJ) | exact KJ
theorem dX8_refuse_0 : decode cX8_refuse 0 = .ok (.aload_n 0, 1) := by decide +kernel
theorem dX8_refuse_1 : decode cX8_refuse 1 = .ok (.getfield 33, 3) := by decide +kernel
theorem dX8_refuse_4 : decode cX8_refuse 4 = .ok (.iload_n 1, 1) := by decide +kernel
theorem dX8_refuse_5 : decode cX8_refuse 5 = .ok (.dup2, 1) := by decide +kernel
theorem dX8_refuse_6 : decode cX8_refuse 6 = .ok (.iaload, 1) := by decide +kernel
theorem dX8_refuse_7 : decode cX8_refuse 7 = .ok (.iconst 1, 1) := by decide +kernel
theorem dX8_refuse_8 : decode cX8_refuse 8 = .ok (.iadd, 1) := by decide +kernel
theorem dX8_refuse_9 : decode cX8_refuse 9 = .ok (.iastore, 1) := by decide +kernel
theorem dX8_refuse_10 : decode cX8_refuse 10 = .ok (.iconst (-1), 1) := by decide +kernel
theorem dX8_refuse_11 : decode cX8_refuse 11 = .ok (.ireturn, 1) := by decide +kernel
set_option maxRecDepth 20000 in
set_option maxHeartbeats 4000000 in
theorem vX8_refuse_0 {l : Launch} {x : CX} {a0 : Nat} {x1 : Int32} {h : PH} {rc rs n0 : Nat} {Q : Option Value → PH → Prop} {X : String → PH → Prop}
    (K : ((hK h a0).1 = 8) ∧ ∃ b2, (hR h a0 3 = some b2) ∧ ((hK h b2).1 = 100) ∧ (vp_in x1 (hK h b2).2) ∧ (vp_in x1 (hK h b2).2) ∧ Q (some (.int (-1))) (sI h b2 x1.toNatClampNeg ((hI h b2 x1.toNatClampNeg) + 1))) :
    Gm l x mX8_refuse 0 0 [(0, .ref a0), (1, .int x1)] [] h rc rs n0 Q X := by
  refine g_aload_n dX8_refuse_0 rfl 0 rfl ?_
  obtain ⟨e1, b2, e3, K⟩ := K
  refine g_get (c := 8) (k := 3) (v := .ref b2) dX8_refuse_1 fc_8 (by decide) (by decide) bw_1201 (congrArg pr e3) e1 ?_
  refine g_iload_n dX8_refuse_4 rfl 1 rfl ?_
  refine g_dup2 dX8_refuse_5 rfl rfl ?_
  obtain ⟨e4, e5, K⟩ := K
  refine g_iald dX8_refuse_6 e4 e5 ?_
  refine g_iconst (v := 1) dX8_refuse_7 (by decide) ?_
  refine g_iadd dX8_refuse_8 ?_
  obtain ⟨e6, K⟩ := K
  refine g_iast dX8_refuse_9 e4 e6 ?_
  refine g_iconst (v := (-1)) dX8_refuse_10 (by decide) ?_
  exact g_iret dX8_refuse_11 rfl K
theorem dX8_keep_0 : decode cX8_keep 0 = .ok (.aload_n 0, 1) := by decide +kernel
theorem dX8_keep_1 : decode cX8_keep 1 = .ok (.getfield 208, 3) := by decide +kernel
theorem dX8_keep_4 : decode cX8_keep 4 = .ok (.bipush 40, 2) := by decide +kernel
theorem dX8_keep_6 : decode cX8_keep 6 = .ok (.if_icmp .ne 48, 3) := by decide +kernel
theorem dX8_keep_9 : decode cX8_keep 9 = .ok (.sipush 312, 3) := by decide +kernel
theorem dX8_keep_12 : decode cX8_keep 12 = .ok (.istore_n 1, 1) := by decide +kernel
theorem dX8_keep_13 : decode cX8_keep 13 = .ok (.iload_n 1, 1) := by decide +kernel
theorem dX8_keep_14 : decode cX8_keep 14 = .ok (.aload_n 0, 1) := by decide +kernel
theorem dX8_keep_15 : decode cX8_keep 15 = .ok (.getfield 67, 3) := by decide +kernel
theorem dX8_keep_18 : decode cX8_keep 18 = .ok (.arraylength, 1) := by decide +kernel
theorem dX8_keep_19 : decode cX8_keep 19 = .ok (.if_icmp .ge 25, 3) := by decide +kernel
theorem dX8_keep_22 : decode cX8_keep 22 = .ok (.aload_n 0, 1) := by decide +kernel
theorem dX8_keep_23 : decode cX8_keep 23 = .ok (.getfield 67, 3) := by decide +kernel
theorem dX8_keep_26 : decode cX8_keep 26 = .ok (.iload_n 1, 1) := by decide +kernel
theorem dX8_keep_27 : decode cX8_keep 27 = .ok (.sipush 312, 3) := by decide +kernel
theorem dX8_keep_30 : decode cX8_keep 30 = .ok (.isub, 1) := by decide +kernel
theorem dX8_keep_31 : decode cX8_keep 31 = .ok (.aload_n 0, 1) := by decide +kernel
theorem dX8_keep_32 : decode cX8_keep 32 = .ok (.getfield 67, 3) := by decide +kernel
theorem dX8_keep_35 : decode cX8_keep 35 = .ok (.iload_n 1, 1) := by decide +kernel
theorem dX8_keep_36 : decode cX8_keep 36 = .ok (.iaload, 1) := by decide +kernel
theorem dX8_keep_37 : decode cX8_keep 37 = .ok (.iastore, 1) := by decide +kernel
theorem dX8_keep_38 : decode cX8_keep 38 = .ok (.iinc 1 1, 3) := by decide +kernel
theorem dX8_keep_41 : decode cX8_keep 41 = .ok (.goto (-28), 3) := by decide +kernel
theorem dX8_keep_44 : decode cX8_keep 44 = .ok (.aload_n 0, 1) := by decide +kernel
theorem dX8_keep_45 : decode cX8_keep 45 = .ok (.dup, 1) := by decide +kernel
theorem dX8_keep_46 : decode cX8_keep 46 = .ok (.getfield 208, 3) := by decide +kernel
theorem dX8_keep_49 : decode cX8_keep 49 = .ok (.iconst 1, 1) := by decide +kernel
theorem dX8_keep_50 : decode cX8_keep 50 = .ok (.isub, 1) := by decide +kernel
theorem dX8_keep_51 : decode cX8_keep 51 = .ok (.putfield 208, 3) := by decide +kernel
theorem dX8_keep_54 : decode cX8_keep 54 = .ok (.iconst 0, 1) := by decide +kernel
theorem dX8_keep_55 : decode cX8_keep 55 = .ok (.istore_n 1, 1) := by decide +kernel
theorem dX8_keep_56 : decode cX8_keep 56 = .ok (.iload_n 1, 1) := by decide +kernel
theorem dX8_keep_57 : decode cX8_keep 57 = .ok (.sipush 312, 3) := by decide +kernel
theorem dX8_keep_60 : decode cX8_keep 60 = .ok (.if_icmp .ge 30, 3) := by decide +kernel
theorem dX8_keep_63 : decode cX8_keep 63 = .ok (.aload_n 0, 1) := by decide +kernel
theorem dX8_keep_64 : decode cX8_keep 64 = .ok (.getfield 67, 3) := by decide +kernel
theorem dX8_keep_67 : decode cX8_keep 67 = .ok (.sipush 312, 3) := by decide +kernel
theorem dX8_keep_70 : decode cX8_keep 70 = .ok (.aload_n 0, 1) := by decide +kernel
theorem dX8_keep_71 : decode cX8_keep 71 = .ok (.getfield 208, 3) := by decide +kernel
theorem dX8_keep_74 : decode cX8_keep 74 = .ok (.imul, 1) := by decide +kernel
theorem dX8_keep_75 : decode cX8_keep 75 = .ok (.iload_n 1, 1) := by decide +kernel
theorem dX8_keep_76 : decode cX8_keep 76 = .ok (.iadd, 1) := by decide +kernel
theorem dX8_keep_77 : decode cX8_keep 77 = .ok (.aload_n 0, 1) := by decide +kernel
theorem dX8_keep_78 : decode cX8_keep 78 = .ok (.getfield 29, 3) := by decide +kernel
theorem dX8_keep_81 : decode cX8_keep 81 = .ok (.iload_n 1, 1) := by decide +kernel
theorem dX8_keep_82 : decode cX8_keep 82 = .ok (.iaload, 1) := by decide +kernel
theorem dX8_keep_83 : decode cX8_keep 83 = .ok (.iastore, 1) := by decide +kernel
theorem dX8_keep_84 : decode cX8_keep 84 = .ok (.iinc 1 1, 3) := by decide +kernel
theorem dX8_keep_87 : decode cX8_keep 87 = .ok (.goto (-31), 3) := by decide +kernel
theorem dX8_keep_90 : decode cX8_keep 90 = .ok (.aload_n 0, 1) := by decide +kernel
theorem dX8_keep_91 : decode cX8_keep 91 = .ok (.dup, 1) := by decide +kernel
theorem dX8_keep_92 : decode cX8_keep 92 = .ok (.getfield 208, 3) := by decide +kernel
theorem dX8_keep_95 : decode cX8_keep 95 = .ok (.iconst 1, 1) := by decide +kernel
theorem dX8_keep_96 : decode cX8_keep 96 = .ok (.iadd, 1) := by decide +kernel
theorem dX8_keep_97 : decode cX8_keep 97 = .ok (.putfield 208, 3) := by decide +kernel
theorem dX8_keep_100 : decode cX8_keep 100 = .ok (.return_, 1) := by decide +kernel
set_option maxRecDepth 20000 in
set_option maxHeartbeats 4000000 in
theorem vX8_keep_0 {l : Launch} {x : CX} {a0 : Nat} {h : PH} {rc rs n0 : Nat} {Q : Option Value → PH → Prop} {X : String → PH → Prop}
    (K : ((hK h a0).1 = 8) ∧ ((¬ (hI h a0 24) = 40 → Gm l x mX8_keep 0 56 [(0, .ref a0), (1, .int 0)] [] h rc rs n0 Q X) ∧ ((hI h a0 24) = 40 → Gm l x mX8_keep 0 13 [(0, .ref a0), (1, .int 312)] [] h rc rs n0 Q X))) :
    Gm l x mX8_keep 0 0 [(0, .ref a0)] [] h rc rs n0 Q X := by
  refine g_aload_n dX8_keep_0 rfl 0 rfl ?_
  obtain ⟨e1, K⟩ := K
  refine g_get (c := 8) (k := 24) (v := .int (hI h a0 24)) dX8_keep_1 fc_8 (by decide) (by decide) bw_1222 rfl e1 ?_
  refine g_bipush (v := 40) dX8_keep_4 (by decide) ?_
  refine g_icmp_ne (tgt := 54) dX8_keep_6 (by decide) (fun c2 => ?_) (fun c2 => ?_)
  · replace K := K.1 c2
    refine g_iconst (v := 0) dX8_keep_54 (by decide) ?_
    refine g_istore_n (lv' := [(0, .ref a0), (1, .int 0)]) dX8_keep_55 rfl (by decide) rfl ?_
    exact K
  · replace K := K.2 c2
    refine g_sipush (v := 312) dX8_keep_9 (by decide) ?_
    refine g_istore_n (lv' := [(0, .ref a0), (1, .int 312)]) dX8_keep_12 rfl (by decide) rfl ?_
    exact K
set_option maxRecDepth 20000 in
set_option maxHeartbeats 4000000 in
theorem vX8_keep_13 {l : Launch} {x : CX} {a0 : Nat} {x1 : Int32} {h : PH} {rc rs n0 : Nat} {Q : Option Value → PH → Prop} {X : String → PH → Prop}
    (K : ((hK h a0).1 = 8) ∧ ∃ b2, (hR h a0 25 = some b2) ∧ ((hK h b2).1 = 100) ∧ (((Int32.ofNat (hK h b2).2) ≤ x1 → Gm l x mX8_keep 0 56 [(0, .ref a0), (1, .int 0)] [] (sI h a0 24 ((hI h a0 24) - 1)) rc rs n0 Q X) ∧ (¬ (Int32.ofNat (hK h b2).2) ≤ x1 → (vp_in x1 (hK h b2).2) ∧ (vp_in (x1 - 312) (hK h b2).2) ∧ Gm l x mX8_keep 0 13 [(0, .ref a0), (1, .int (x1 + 1))] [] (sI h b2 (x1 - 312).toNatClampNeg (hI h b2 x1.toNatClampNeg)) rc rs n0 Q X))) :
    Gm l x mX8_keep 0 13 [(0, .ref a0), (1, .int x1)] [] h rc rs n0 Q X := by
  refine g_iload_n dX8_keep_13 rfl 1 rfl ?_
  refine g_aload_n dX8_keep_14 rfl 0 rfl ?_
  obtain ⟨e1, b2, e3, K⟩ := K
  refine g_get (c := 8) (k := 25) (v := .ref b2) dX8_keep_15 fc_8 (by decide) (by decide) bw_1223 (congrArg pr e3) e1 ?_
  obtain ⟨e4, K⟩ := K
  refine g_alen (t := 0) dX8_keep_18 (by decide) e4 rfl ?_
  refine g_icmp_ge (tgt := 44) dX8_keep_19 (by decide) (fun c5 => ?_) (fun c5 => ?_)
  · replace K := K.1 c5
    refine g_aload_n dX8_keep_44 rfl 0 rfl ?_
    refine g_dup dX8_keep_45 rfl ?_
    refine g_get (c := 8) (k := 24) (v := .int (hI h a0 24)) dX8_keep_46 fc_8 (by decide) (by decide) bw_1222 rfl e1 ?_
    refine g_iconst (v := 1) dX8_keep_49 (by decide) ?_
    refine g_isub dX8_keep_50 ?_
    refine g_puti (c := 8) (k := 24) dX8_keep_51 fc_8 (by decide) (by decide) bw_1222 (Or.inl rfl) rfl e1 ?_
    refine g_iconst (v := 0) dX8_keep_54 (by decide) ?_
    refine g_istore_n (lv' := [(0, .ref a0), (1, .int 0)]) dX8_keep_55 rfl (by decide) rfl ?_
    exact K
  · replace K := K.2 c5
    refine g_aload_n dX8_keep_22 rfl 0 rfl ?_
    refine g_get (c := 8) (k := 25) (v := .ref b2) dX8_keep_23 fc_8 (by decide) (by decide) bw_1223 (congrArg pr e3) e1 ?_
    refine g_iload_n dX8_keep_26 rfl 1 rfl ?_
    refine g_sipush (v := 312) dX8_keep_27 (by decide) ?_
    refine g_isub dX8_keep_30 ?_
    refine g_aload_n dX8_keep_31 rfl 0 rfl ?_
    refine g_get (c := 8) (k := 25) (v := .ref b2) dX8_keep_32 fc_8 (by decide) (by decide) bw_1223 (congrArg pr e3) e1 ?_
    refine g_iload_n dX8_keep_35 rfl 1 rfl ?_
    obtain ⟨e6, K⟩ := K
    refine g_iald dX8_keep_36 e4 e6 ?_
    obtain ⟨e7, K⟩ := K
    refine g_iast dX8_keep_37 e4 e7 ?_
    refine g_iinc (v := (x1 + 1)) (lv' := [(0, .ref a0), (1, .int (x1 + 1))]) dX8_keep_38 1 rfl (by rfl) (by decide) rfl ?_
    refine g_goto (tgt := 13) dX8_keep_41 (by decide) ?_
    exact K
set_option maxRecDepth 20000 in
set_option maxHeartbeats 4000000 in
theorem vX8_keep_56 {l : Launch} {x : CX} {a0 : Nat} {x1 : Int32} {h : PH} {rc rs n0 : Nat} {Q : Option Value → PH → Prop} {X : String → PH → Prop}
    (K : ((312 ≤ x1 → ((hK h a0).1 = 8) ∧ Q none (sI h a0 24 ((hI h a0 24) + 1))) ∧ (¬ 312 ≤ x1 → ((hK h a0).1 = 8) ∧ ∃ b4, (hR h a0 25 = some b4) ∧ ∃ b6, (hR h a0 2 = some b6) ∧ ((hK h b6).1 = 100) ∧ (vp_in x1 (hK h b6).2) ∧ ((hK h b4).1 = 100) ∧ (vp_in ((312 * (hI h a0 24)) + x1) (hK h b4).2) ∧ Gm l x mX8_keep 0 56 [(0, .ref a0), (1, .int (x1 + 1))] [] (sI h b4 ((312 * (hI h a0 24)) + x1).toNatClampNeg (hI h b6 x1.toNatClampNeg)) rc rs n0 Q X))) :
    Gm l x mX8_keep 0 56 [(0, .ref a0), (1, .int x1)] [] h rc rs n0 Q X := by
  refine g_iload_n dX8_keep_56 rfl 1 rfl ?_
  refine g_sipush (v := 312) dX8_keep_57 (by decide) ?_
  refine g_icmp_ge (tgt := 90) dX8_keep_60 (by decide) (fun c1 => ?_) (fun c1 => ?_)
  · replace K := K.1 c1
    refine g_aload_n dX8_keep_90 rfl 0 rfl ?_
    refine g_dup dX8_keep_91 rfl ?_
    obtain ⟨e2, K⟩ := K
    refine g_get (c := 8) (k := 24) (v := .int (hI h a0 24)) dX8_keep_92 fc_8 (by decide) (by decide) bw_1222 rfl e2 ?_
    refine g_iconst (v := 1) dX8_keep_95 (by decide) ?_
    refine g_iadd dX8_keep_96 ?_
    refine g_puti (c := 8) (k := 24) dX8_keep_97 fc_8 (by decide) (by decide) bw_1222 (Or.inl rfl) rfl e2 ?_
    exact g_vret dX8_keep_100 rfl K
  · replace K := K.2 c1
    refine g_aload_n dX8_keep_63 rfl 0 rfl ?_
    obtain ⟨e3, b4, e5, K⟩ := K
    refine g_get (c := 8) (k := 25) (v := .ref b4) dX8_keep_64 fc_8 (by decide) (by decide) bw_1223 (congrArg pr e5) e3 ?_
    refine g_sipush (v := 312) dX8_keep_67 (by decide) ?_
    refine g_aload_n dX8_keep_70 rfl 0 rfl ?_
    refine g_get (c := 8) (k := 24) (v := .int (hI h a0 24)) dX8_keep_71 fc_8 (by decide) (by decide) bw_1222 rfl e3 ?_
    refine g_imul dX8_keep_74 ?_
    refine g_iload_n dX8_keep_75 rfl 1 rfl ?_
    refine g_iadd dX8_keep_76 ?_
    refine g_aload_n dX8_keep_77 rfl 0 rfl ?_
    obtain ⟨b6, e7, K⟩ := K
    refine g_get (c := 8) (k := 2) (v := .ref b6) dX8_keep_78 fc_8 (by decide) (by decide) bw_1200 (congrArg pr e7) e3 ?_
    refine g_iload_n dX8_keep_81 rfl 1 rfl ?_
    obtain ⟨e8, e9, K⟩ := K
    refine g_iald dX8_keep_82 e8 e9 ?_
    obtain ⟨e10, e11, K⟩ := K
    refine g_iast dX8_keep_83 e10 e11 ?_
    refine g_iinc (v := (x1 + 1)) (lv' := [(0, .ref a0), (1, .int (x1 + 1))]) dX8_keep_84 1 rfl (by rfl) (by decide) rfl ?_
    refine g_goto (tgt := 56) dX8_keep_87 (by decide) ?_
    exact K
theorem dX8_undo_0 : decode cX8_undo 0 = .ok (.aload_n 0, 1) := by decide +kernel
theorem dX8_undo_1 : decode cX8_undo 1 = .ok (.iconst 0, 1) := by decide +kernel
theorem dX8_undo_2 : decode cX8_undo 2 = .ok (.putfield 104, 3) := by decide +kernel
theorem dX8_undo_5 : decode cX8_undo 5 = .ok (.aload_n 0, 1) := by decide +kernel
theorem dX8_undo_6 : decode cX8_undo 6 = .ok (.getfield 208, 3) := by decide +kernel
theorem dX8_undo_9 : decode cX8_undo 9 = .ok (.ifCond .ne 5, 3) := by decide +kernel
theorem dX8_undo_12 : decode cX8_undo 12 = .ok (.iconst (-1), 1) := by decide +kernel
theorem dX8_undo_13 : decode cX8_undo 13 = .ok (.ireturn, 1) := by decide +kernel
theorem dX8_undo_14 : decode cX8_undo 14 = .ok (.aload_n 0, 1) := by decide +kernel
theorem dX8_undo_15 : decode cX8_undo 15 = .ok (.dup, 1) := by decide +kernel
theorem dX8_undo_16 : decode cX8_undo 16 = .ok (.getfield 208, 3) := by decide +kernel
theorem dX8_undo_19 : decode cX8_undo 19 = .ok (.iconst 1, 1) := by decide +kernel
theorem dX8_undo_20 : decode cX8_undo 20 = .ok (.isub, 1) := by decide +kernel
theorem dX8_undo_21 : decode cX8_undo 21 = .ok (.putfield 208, 3) := by decide +kernel
theorem dX8_undo_24 : decode cX8_undo 24 = .ok (.iconst 0, 1) := by decide +kernel
theorem dX8_undo_25 : decode cX8_undo 25 = .ok (.istore_n 1, 1) := by decide +kernel
theorem dX8_undo_26 : decode cX8_undo 26 = .ok (.iload_n 1, 1) := by decide +kernel
theorem dX8_undo_27 : decode cX8_undo 27 = .ok (.sipush 312, 3) := by decide +kernel
theorem dX8_undo_30 : decode cX8_undo 30 = .ok (.if_icmp .ge 30, 3) := by decide +kernel
theorem dX8_undo_33 : decode cX8_undo 33 = .ok (.aload_n 0, 1) := by decide +kernel
theorem dX8_undo_34 : decode cX8_undo 34 = .ok (.getfield 29, 3) := by decide +kernel
theorem dX8_undo_37 : decode cX8_undo 37 = .ok (.iload_n 1, 1) := by decide +kernel
theorem dX8_undo_38 : decode cX8_undo 38 = .ok (.aload_n 0, 1) := by decide +kernel
theorem dX8_undo_39 : decode cX8_undo 39 = .ok (.getfield 67, 3) := by decide +kernel
theorem dX8_undo_42 : decode cX8_undo 42 = .ok (.sipush 312, 3) := by decide +kernel
theorem dX8_undo_45 : decode cX8_undo 45 = .ok (.aload_n 0, 1) := by decide +kernel
theorem dX8_undo_46 : decode cX8_undo 46 = .ok (.getfield 208, 3) := by decide +kernel
theorem dX8_undo_49 : decode cX8_undo 49 = .ok (.imul, 1) := by decide +kernel
theorem dX8_undo_50 : decode cX8_undo 50 = .ok (.iload_n 1, 1) := by decide +kernel
theorem dX8_undo_51 : decode cX8_undo 51 = .ok (.iadd, 1) := by decide +kernel
theorem dX8_undo_52 : decode cX8_undo 52 = .ok (.iaload, 1) := by decide +kernel
theorem dX8_undo_53 : decode cX8_undo 53 = .ok (.iastore, 1) := by decide +kernel
theorem dX8_undo_54 : decode cX8_undo 54 = .ok (.iinc 1 1, 3) := by decide +kernel
theorem dX8_undo_57 : decode cX8_undo 57 = .ok (.goto (-31), 3) := by decide +kernel
theorem dX8_undo_60 : decode cX8_undo 60 = .ok (.aload_n 0, 1) := by decide +kernel
theorem dX8_undo_61 : decode cX8_undo 61 = .ok (.getfield 208, 3) := by decide +kernel
theorem dX8_undo_64 : decode cX8_undo 64 = .ok (.ireturn, 1) := by decide +kernel
set_option maxRecDepth 20000 in
set_option maxHeartbeats 4000000 in
theorem vX8_undo_0 {l : Launch} {x : CX} {a0 : Nat} {h : PH} {rc rs n0 : Nat} {Q : Option Value → PH → Prop} {X : String → PH → Prop}
    (K : ((hK h a0).1 = 8) ∧ ((¬ (hI h a0 24) = 0 → Gm l x mX8_undo 0 26 [(0, .ref a0), (1, .int 0)] [] (sI (sI h a0 1 0) a0 24 ((hI h a0 24) - 1)) rc rs n0 Q X) ∧ ((hI h a0 24) = 0 → Q (some (.int (-1))) (sI h a0 1 0)))) :
    Gm l x mX8_undo 0 0 [(0, .ref a0)] [] h rc rs n0 Q X := by
  refine g_aload_n dX8_undo_0 rfl 0 rfl ?_
  refine g_iconst (v := 0) dX8_undo_1 (by decide) ?_
  obtain ⟨e1, K⟩ := K
  refine g_puti (c := 8) (k := 1) dX8_undo_2 fc_8 (by decide) (by decide) bw_1199 (Or.inl rfl) rfl e1 ?_
  refine g_aload_n dX8_undo_5 rfl 0 rfl ?_
  refine g_get (c := 8) (k := 24) (v := .int (hI h a0 24)) dX8_undo_6 fc_8 (by decide) (by decide) bw_1222 (congrArg Value.int ((skI (by decide)).trans rfl)) (kkI e1) ?_
  refine g_if_ne (tgt := 14) dX8_undo_9 (by decide) (fun c2 => ?_) (fun c2 => ?_)
  · replace K := K.1 c2
    refine g_aload_n dX8_undo_14 rfl 0 rfl ?_
    refine g_dup dX8_undo_15 rfl ?_
    refine g_get (c := 8) (k := 24) (v := .int (hI h a0 24)) dX8_undo_16 fc_8 (by decide) (by decide) bw_1222 (congrArg Value.int ((skI (by decide)).trans rfl)) (kkI e1) ?_
    refine g_iconst (v := 1) dX8_undo_19 (by decide) ?_
    refine g_isub dX8_undo_20 ?_
    refine g_puti (c := 8) (k := 24) dX8_undo_21 fc_8 (by decide) (by decide) bw_1222 (Or.inl rfl) rfl (kkI e1) ?_
    refine g_iconst (v := 0) dX8_undo_24 (by decide) ?_
    refine g_istore_n (lv' := [(0, .ref a0), (1, .int 0)]) dX8_undo_25 rfl (by decide) rfl ?_
    exact K
  · replace K := K.2 c2
    refine g_iconst (v := (-1)) dX8_undo_12 (by decide) ?_
    exact g_iret dX8_undo_13 rfl K
set_option maxRecDepth 20000 in
set_option maxHeartbeats 4000000 in
theorem vX8_undo_26 {l : Launch} {x : CX} {a0 : Nat} {x1 : Int32} {h : PH} {rc rs n0 : Nat} {Q : Option Value → PH → Prop} {X : String → PH → Prop}
    (K : ((312 ≤ x1 → ((hK h a0).1 = 8) ∧ Q (some (.int (hI h a0 24))) h) ∧ (¬ 312 ≤ x1 → ((hK h a0).1 = 8) ∧ ∃ b4, (hR h a0 2 = some b4) ∧ ∃ b6, (hR h a0 25 = some b6) ∧ ((hK h b6).1 = 100) ∧ (vp_in ((312 * (hI h a0 24)) + x1) (hK h b6).2) ∧ ((hK h b4).1 = 100) ∧ (vp_in x1 (hK h b4).2) ∧ Gm l x mX8_undo 0 26 [(0, .ref a0), (1, .int (x1 + 1))] [] (sI h b4 x1.toNatClampNeg (hI h b6 ((312 * (hI h a0 24)) + x1).toNatClampNeg)) rc rs n0 Q X))) :
    Gm l x mX8_undo 0 26 [(0, .ref a0), (1, .int x1)] [] h rc rs n0 Q X := by
  refine g_iload_n dX8_undo_26 rfl 1 rfl ?_
  refine g_sipush (v := 312) dX8_undo_27 (by decide) ?_
  refine g_icmp_ge (tgt := 60) dX8_undo_30 (by decide) (fun c1 => ?_) (fun c1 => ?_)
  · replace K := K.1 c1
    refine g_aload_n dX8_undo_60 rfl 0 rfl ?_
    obtain ⟨e2, K⟩ := K
    refine g_get (c := 8) (k := 24) (v := .int (hI h a0 24)) dX8_undo_61 fc_8 (by decide) (by decide) bw_1222 rfl e2 ?_
    exact g_iret dX8_undo_64 rfl K
  · replace K := K.2 c1
    refine g_aload_n dX8_undo_33 rfl 0 rfl ?_
    obtain ⟨e3, b4, e5, K⟩ := K
    refine g_get (c := 8) (k := 2) (v := .ref b4) dX8_undo_34 fc_8 (by decide) (by decide) bw_1200 (congrArg pr e5) e3 ?_
    refine g_iload_n dX8_undo_37 rfl 1 rfl ?_
    refine g_aload_n dX8_undo_38 rfl 0 rfl ?_
    obtain ⟨b6, e7, K⟩ := K
    refine g_get (c := 8) (k := 25) (v := .ref b6) dX8_undo_39 fc_8 (by decide) (by decide) bw_1223 (congrArg pr e7) e3 ?_
    refine g_sipush (v := 312) dX8_undo_42 (by decide) ?_
    refine g_aload_n dX8_undo_45 rfl 0 rfl ?_
    refine g_get (c := 8) (k := 24) (v := .int (hI h a0 24)) dX8_undo_46 fc_8 (by decide) (by decide) bw_1222 rfl e3 ?_
    refine g_imul dX8_undo_49 ?_
    refine g_iload_n dX8_undo_50 rfl 1 rfl ?_
    refine g_iadd dX8_undo_51 ?_
    obtain ⟨e8, e9, K⟩ := K
    refine g_iald dX8_undo_52 e8 e9 ?_
    obtain ⟨e10, e11, K⟩ := K
    refine g_iast dX8_undo_53 e10 e11 ?_
    refine g_iinc (v := (x1 + 1)) (lv' := [(0, .ref a0), (1, .int (x1 + 1))]) dX8_undo_54 1 rfl (by rfl) (by decide) rfl ?_
    refine g_goto (tgt := 26) dX8_undo_57 (by decide) ?_
    exact K
theorem dX8_forget_0 : decode cX8_forget 0 = .ok (.aload_n 0, 1) := by decide +kernel
theorem dX8_forget_1 : decode cX8_forget 1 = .ok (.iconst 0, 1) := by decide +kernel
theorem dX8_forget_2 : decode cX8_forget 2 = .ok (.putfield 104, 3) := by decide +kernel
theorem dX8_forget_5 : decode cX8_forget 5 = .ok (.aload_n 0, 1) := by decide +kernel
theorem dX8_forget_6 : decode cX8_forget 6 = .ok (.iconst 0, 1) := by decide +kernel
theorem dX8_forget_7 : decode cX8_forget 7 = .ok (.putfield 211, 3) := by decide +kernel
theorem dX8_forget_10 : decode cX8_forget 10 = .ok (.return_, 1) := by decide +kernel
set_option maxRecDepth 20000 in
set_option maxHeartbeats 4000000 in
theorem vX8_forget_0 {l : Launch} {x : CX} {a0 : Nat} {h : PH} {rc rs n0 : Nat} {Q : Option Value → PH → Prop} {X : String → PH → Prop}
    (K : ((hK h a0).1 = 8) ∧ Q none (sI (sI h a0 1 0) a0 26 0)) :
    Gm l x mX8_forget 0 0 [(0, .ref a0)] [] h rc rs n0 Q X := by
  refine g_aload_n dX8_forget_0 rfl 0 rfl ?_
  refine g_iconst (v := 0) dX8_forget_1 (by decide) ?_
  obtain ⟨e1, K⟩ := K
  refine g_puti (c := 8) (k := 1) dX8_forget_2 fc_8 (by decide) (by decide) bw_1199 (Or.inl rfl) rfl e1 ?_
  refine g_aload_n dX8_forget_5 rfl 0 rfl ?_
  refine g_iconst (v := 0) dX8_forget_6 (by decide) ?_
  refine g_puti (c := 8) (k := 26) dX8_forget_7 fc_8 (by decide) (by decide) bw_1224 (Or.inl rfl) rfl (kkI e1) ?_
  exact g_vret dX8_forget_10 rfl K
theorem dX8_unlike_0 : decode cX8_unlike 0 = .ok (.iconst 0, 1) := by decide +kernel
theorem dX8_unlike_1 : decode cX8_unlike 1 = .ok (.istore_n 2, 1) := by decide +kernel
theorem dX8_unlike_2 : decode cX8_unlike 2 = .ok (.iconst 0, 1) := by decide +kernel
theorem dX8_unlike_3 : decode cX8_unlike 3 = .ok (.istore_n 3, 1) := by decide +kernel
theorem dX8_unlike_4 : decode cX8_unlike 4 = .ok (.iload_n 3, 1) := by decide +kernel
theorem dX8_unlike_5 : decode cX8_unlike 5 = .ok (.aload_n 0, 1) := by decide +kernel
theorem dX8_unlike_6 : decode cX8_unlike 6 = .ok (.getfield 423, 3) := by decide +kernel
theorem dX8_unlike_9 : decode cX8_unlike 9 = .ok (.if_icmp .ge 78, 3) := by decide +kernel
theorem dX8_unlike_12 : decode cX8_unlike 12 = .ok (.iconst 1, 1) := by decide +kernel
theorem dX8_unlike_13 : decode cX8_unlike 13 = .ok (.istore 4, 2) := by decide +kernel
theorem dX8_unlike_15 : decode cX8_unlike 15 = .ok (.iconst 0, 1) := by decide +kernel
theorem dX8_unlike_16 : decode cX8_unlike 16 = .ok (.istore 5, 2) := by decide +kernel
theorem dX8_unlike_18 : decode cX8_unlike 18 = .ok (.iload 5, 2) := by decide +kernel
theorem dX8_unlike_20 : decode cX8_unlike 20 = .ok (.iload_n 3, 1) := by decide +kernel
theorem dX8_unlike_21 : decode cX8_unlike 21 = .ok (.if_icmp .ge 47, 3) := by decide +kernel
theorem dX8_unlike_24 : decode cX8_unlike 24 = .ok (.iload 4, 2) := by decide +kernel
theorem dX8_unlike_26 : decode cX8_unlike 26 = .ok (.ifCond .eq 33, 3) := by decide +kernel
theorem dX8_unlike_29 : decode cX8_unlike 29 = .ok (.aload_n 0, 1) := by decide +kernel
theorem dX8_unlike_30 : decode cX8_unlike 30 = .ok (.getfield 76, 3) := by decide +kernel
theorem dX8_unlike_33 : decode cX8_unlike 33 = .ok (.bipush 20, 2) := by decide +kernel
theorem dX8_unlike_35 : decode cX8_unlike 35 = .ok (.iload 5, 2) := by decide +kernel
theorem dX8_unlike_37 : decode cX8_unlike 37 = .ok (.imul, 1) := by decide +kernel
theorem dX8_unlike_38 : decode cX8_unlike 38 = .ok (.iload_n 1, 1) := by decide +kernel
theorem dX8_unlike_39 : decode cX8_unlike 39 = .ok (.iadd, 1) := by decide +kernel
theorem dX8_unlike_40 : decode cX8_unlike 40 = .ok (.iaload, 1) := by decide +kernel
theorem dX8_unlike_41 : decode cX8_unlike 41 = .ok (.aload_n 0, 1) := by decide +kernel
theorem dX8_unlike_42 : decode cX8_unlike 42 = .ok (.getfield 76, 3) := by decide +kernel
theorem dX8_unlike_45 : decode cX8_unlike 45 = .ok (.bipush 20, 2) := by decide +kernel
theorem dX8_unlike_47 : decode cX8_unlike 47 = .ok (.iload_n 3, 1) := by decide +kernel
theorem dX8_unlike_48 : decode cX8_unlike 48 = .ok (.imul, 1) := by decide +kernel
theorem dX8_unlike_49 : decode cX8_unlike 49 = .ok (.iload_n 1, 1) := by decide +kernel
theorem dX8_unlike_50 : decode cX8_unlike 50 = .ok (.iadd, 1) := by decide +kernel
theorem dX8_unlike_51 : decode cX8_unlike 51 = .ok (.iaload, 1) := by decide +kernel
theorem dX8_unlike_52 : decode cX8_unlike 52 = .ok (.if_icmp .eq 7, 3) := by decide +kernel
theorem dX8_unlike_55 : decode cX8_unlike 55 = .ok (.iconst 1, 1) := by decide +kernel
theorem dX8_unlike_56 : decode cX8_unlike 56 = .ok (.goto 4, 3) := by decide +kernel
theorem dX8_unlike_59 : decode cX8_unlike 59 = .ok (.iconst 0, 1) := by decide +kernel
theorem dX8_unlike_60 : decode cX8_unlike 60 = .ok (.istore 4, 2) := by decide +kernel
theorem dX8_unlike_62 : decode cX8_unlike 62 = .ok (.iinc 5 1, 3) := by decide +kernel
theorem dX8_unlike_65 : decode cX8_unlike 65 = .ok (.goto (-47), 3) := by decide +kernel
theorem dX8_unlike_68 : decode cX8_unlike 68 = .ok (.iload_n 2, 1) := by decide +kernel
theorem dX8_unlike_69 : decode cX8_unlike 69 = .ok (.iload 4, 2) := by decide +kernel
theorem dX8_unlike_71 : decode cX8_unlike 71 = .ok (.ifCond .eq 7, 3) := by decide +kernel
theorem dX8_unlike_74 : decode cX8_unlike 74 = .ok (.iconst 1, 1) := by decide +kernel
theorem dX8_unlike_75 : decode cX8_unlike 75 = .ok (.goto 4, 3) := by decide +kernel
theorem dX8_unlike_78 : decode cX8_unlike 78 = .ok (.iconst 0, 1) := by decide +kernel
theorem dX8_unlike_79 : decode cX8_unlike 79 = .ok (.iadd, 1) := by decide +kernel
theorem dX8_unlike_80 : decode cX8_unlike 80 = .ok (.istore_n 2, 1) := by decide +kernel
theorem dX8_unlike_81 : decode cX8_unlike 81 = .ok (.iinc 3 1, 3) := by decide +kernel
theorem dX8_unlike_84 : decode cX8_unlike 84 = .ok (.goto (-80), 3) := by decide +kernel
theorem dX8_unlike_87 : decode cX8_unlike 87 = .ok (.iload_n 2, 1) := by decide +kernel
theorem dX8_unlike_88 : decode cX8_unlike 88 = .ok (.ireturn, 1) := by decide +kernel
set_option maxRecDepth 20000 in
set_option maxHeartbeats 4000000 in
theorem vX8_unlike_0 {l : Launch} {x : CX} {a0 : Nat} {x1 : Int32} {h : PH} {rc rs n0 : Nat} {Q : Option Value → PH → Prop} {X : String → PH → Prop}
    (K : Gm l x mX8_unlike 0 4 [(0, .ref a0), (1, .int x1), (2, .int 0), (3, .int 0)] [] h rc rs n0 Q X) :
    Gm l x mX8_unlike 0 0 [(0, .ref a0), (1, .int x1)] [] h rc rs n0 Q X := by
  refine g_iconst (v := 0) dX8_unlike_0 (by decide) ?_
  refine g_istore_n (lv' := [(0, .ref a0), (1, .int x1), (2, .int 0)]) dX8_unlike_1 rfl (by decide) rfl ?_
  refine g_iconst (v := 0) dX8_unlike_2 (by decide) ?_
  refine g_istore_n (lv' := [(0, .ref a0), (1, .int x1), (2, .int 0), (3, .int 0)]) dX8_unlike_3 rfl (by decide) rfl ?_
  exact K
set_option maxRecDepth 20000 in
set_option maxHeartbeats 4000000 in
theorem vX8_unlike_4 {l : Launch} {x : CX} {a0 : Nat} {x1 : Int32} {x2 : Int32} {x3 : Int32} {h : PH} {rc rs n0 : Nat} {Q : Option Value → PH → Prop} {X : String → PH → Prop}
    (K : ((hK h a0).1 = 8) ∧ (((hI h a0 29) ≤ x3 → Q (some (.int x2)) h) ∧ (¬ (hI h a0 29) ≤ x3 → Gm l x mX8_unlike 0 18 [(0, .ref a0), (1, .int x1), (2, .int x2), (3, .int x3), (4, .int 1), (5, .int 0)] [] h rc rs n0 Q X))) :
    Gm l x mX8_unlike 0 4 [(0, .ref a0), (1, .int x1), (2, .int x2), (3, .int x3)] [] h rc rs n0 Q X := by
  refine g_iload_n dX8_unlike_4 rfl 3 rfl ?_
  refine g_aload_n dX8_unlike_5 rfl 0 rfl ?_
  obtain ⟨e1, K⟩ := K
  refine g_get (c := 8) (k := 29) (v := .int (hI h a0 29)) dX8_unlike_6 fc_8 (by decide) (by decide) bw_1227 rfl e1 ?_
  refine g_icmp_ge (tgt := 87) dX8_unlike_9 (by decide) (fun c2 => ?_) (fun c2 => ?_)
  · replace K := K.1 c2
    refine g_iload_n dX8_unlike_87 rfl 2 rfl ?_
    exact g_iret dX8_unlike_88 rfl K
  · replace K := K.2 c2
    refine g_iconst (v := 1) dX8_unlike_12 (by decide) ?_
    refine g_istore (lv' := [(0, .ref a0), (1, .int x1), (2, .int x2), (3, .int x3), (4, .int 1)]) dX8_unlike_13 (by decide) rfl ?_
    refine g_iconst (v := 0) dX8_unlike_15 (by decide) ?_
    refine g_istore (lv' := [(0, .ref a0), (1, .int x1), (2, .int x2), (3, .int x3), (4, .int 1), (5, .int 0)]) dX8_unlike_16 (by decide) rfl ?_
    exact K
set_option maxRecDepth 20000 in
set_option maxHeartbeats 4000000 in
theorem vX8_unlike_18 {l : Launch} {x : CX} {a0 : Nat} {x1 : Int32} {x2 : Int32} {x3 : Int32} {x4 : Int32} {x5 : Int32} {h : PH} {rc rs n0 : Nat} {Q : Option Value → PH → Prop} {X : String → PH → Prop}
    (K : ((x3 ≤ x5 → Gm l x mX8_unlike 0 4 [(0, .ref a0), (1, .int x1), (2, .int (x2 + (if x4 = 0 then 0 else 1 : Int32))), (3, .int (x3 + 1))] [] h rc rs n0 Q X) ∧ (¬ x3 ≤ x5 → ((x4 = 0 → Gm l x mX8_unlike 0 18 [(0, .ref a0), (1, .int x1), (2, .int x2), (3, .int x3), (4, .int 0), (5, .int (x5 + 1))] [] h rc rs n0 Q X) ∧ (¬ x4 = 0 → ((hK h a0).1 = 8) ∧ ∃ b5, (hR h a0 31 = some b5) ∧ ((hK h b5).1 = 100) ∧ (vp_in ((20 * x5) + x1) (hK h b5).2) ∧ (vp_in ((20 * x3) + x1) (hK h b5).2) ∧ ∀ (y11 : Int32), y11 = (if (hI h b5 ((20 * x5) + x1).toNatClampNeg) = (hI h b5 ((20 * x3) + x1).toNatClampNeg) then 0 else 1 : Int32) → Gm l x mX8_unlike 0 18 [(0, .ref a0), (1, .int x1), (2, .int x2), (3, .int x3), (4, .int y11), (5, .int (x5 + 1))] [] h rc rs n0 Q X))))) :
    Gm l x mX8_unlike 0 18 [(0, .ref a0), (1, .int x1), (2, .int x2), (3, .int x3), (4, .int x4), (5, .int x5)] [] h rc rs n0 Q X := by
  refine g_iload dX8_unlike_18 5 rfl ?_
  refine g_iload_n dX8_unlike_20 rfl 3 rfl ?_
  refine g_icmp_ge (tgt := 68) dX8_unlike_21 (by decide) (fun c1 => ?_) (fun c1 => ?_)
  · replace K := K.1 c1
    refine g_iload_n dX8_unlike_68 rfl 2 rfl ?_
    refine g_iload dX8_unlike_69 4 rfl ?_
    have KJ : Gm l x mX8_unlike 0 79 [(0, .ref a0), (1, .int x1), (2, .int x2), (3, .int x3), (4, .int x4), (5, .int x5)] [.int (if x4 = 0 then 0 else 1 : Int32), .int x2] h rc rs n0 Q X := by
      refine g_iadd dX8_unlike_79 ?_
      refine g_istore_n (lv' := [(0, .ref a0), (1, .int x1), (2, .int (x2 + (if x4 = 0 then 0 else 1 : Int32))), (3, .int x3), (4, .int x4), (5, .int x5)]) dX8_unlike_80 rfl (by decide) rfl ?_
      refine g_iinc (v := (x3 + 1)) (lv' := [(0, .ref a0), (1, .int x1), (2, .int (x2 + (if x4 = 0 then 0 else 1 : Int32))), (3, .int (x3 + 1)), (4, .int x4), (5, .int x5)]) dX8_unlike_81 3 rfl (by rfl) (by decide) rfl ?_
      refine g_goto (tgt := 4) dX8_unlike_84 (by decide) ?_
      exact Gm.sub [0, 1, 2, 3] rfl K
    refine g_if_eq (tgt := 78) dX8_unlike_71 (by decide) (fun c2 => ?_) (fun c2 => ?_)
    · refine g_iconst (v := 0) dX8_unlike_78 (by decide) ?_
      first | (simp only [if_pos c2] at KJ; exact KJ) | (simp only [if_pos c2, ite_true, ite_false, eq_self] at KJ; exact KJ) | (simp only [if_pos c2] at KJ ⊢; exact KJ) | exact KJ
    · refine g_iconst (v := 1) dX8_unlike_74 (by decide) ?_
      refine g_goto (tgt := 79) dX8_unlike_75 (by decide) ?_
      first | (simp only [if_neg c2] at KJ; exact KJ) | (simp only [if_neg c2, ite_true, ite_false, eq_self] at KJ; exact KJ) | (simp only [if_neg c2] at KJ ⊢; exact KJ) | exact KJ
  · replace K := K.2 c1
    refine g_iload dX8_unlike_24 4 rfl ?_
    refine g_if_eq (tgt := 59) dX8_unlike_26 (by decide) (fun c3 => ?_) (fun c3 => ?_)
    · replace K := K.1 c3
      refine g_iconst (v := 0) dX8_unlike_59 (by decide) ?_
      refine g_istore (lv' := [(0, .ref a0), (1, .int x1), (2, .int x2), (3, .int x3), (4, .int 0), (5, .int x5)]) dX8_unlike_60 (by decide) rfl ?_
      refine g_iinc (v := (x5 + 1)) (lv' := [(0, .ref a0), (1, .int x1), (2, .int x2), (3, .int x3), (4, .int 0), (5, .int (x5 + 1))]) dX8_unlike_62 5 rfl (by rfl) (by decide) rfl ?_
      refine g_goto (tgt := 18) dX8_unlike_65 (by decide) ?_
      exact K
    · replace K := K.2 c3
      refine g_aload_n dX8_unlike_29 rfl 0 rfl ?_
      obtain ⟨e4, b5, e6, K⟩ := K
      refine g_get (c := 8) (k := 31) (v := .ref b5) dX8_unlike_30 fc_8 (by decide) (by decide) bw_1229 (congrArg pr e6) e4 ?_
      refine g_bipush (v := 20) dX8_unlike_33 (by decide) ?_
      refine g_iload dX8_unlike_35 5 rfl ?_
      refine g_imul dX8_unlike_37 ?_
      refine g_iload_n dX8_unlike_38 rfl 1 rfl ?_
      refine g_iadd dX8_unlike_39 ?_
      obtain ⟨e7, e8, K⟩ := K
      refine g_iald dX8_unlike_40 e7 e8 ?_
      refine g_aload_n dX8_unlike_41 rfl 0 rfl ?_
      refine g_get (c := 8) (k := 31) (v := .ref b5) dX8_unlike_42 fc_8 (by decide) (by decide) bw_1229 (congrArg pr e6) e4 ?_
      refine g_bipush (v := 20) dX8_unlike_45 (by decide) ?_
      refine g_iload_n dX8_unlike_47 rfl 3 rfl ?_
      refine g_imul dX8_unlike_48 ?_
      refine g_iload_n dX8_unlike_49 rfl 1 rfl ?_
      refine g_iadd dX8_unlike_50 ?_
      obtain ⟨e9, K⟩ := K
      refine g_iald dX8_unlike_51 e7 e9 ?_
      have KJ : Gm l x mX8_unlike 0 60 [(0, .ref a0), (1, .int x1), (2, .int x2), (3, .int x3), (4, .int x4), (5, .int x5)] [.int (if (hI h b5 ((20 * x5) + x1).toNatClampNeg) = (hI h b5 ((20 * x3) + x1).toNatClampNeg) then 0 else 1 : Int32)] h rc rs n0 Q X := by
        refine g_nmI (fun y11 e12 => ?_)
        replace K := K y11 e12
        refine g_istore (lv' := [(0, .ref a0), (1, .int x1), (2, .int x2), (3, .int x3), (4, .int y11), (5, .int x5)]) dX8_unlike_60 (by decide) rfl ?_
        refine g_iinc (v := (x5 + 1)) (lv' := [(0, .ref a0), (1, .int x1), (2, .int x2), (3, .int x3), (4, .int y11), (5, .int (x5 + 1))]) dX8_unlike_62 5 rfl (by rfl) (by decide) rfl ?_
        refine g_goto (tgt := 18) dX8_unlike_65 (by decide) ?_
        exact K
      refine g_icmp_eq (tgt := 59) dX8_unlike_52 (by decide) (fun c10 => ?_) (fun c10 => ?_)
      · refine g_iconst (v := 0) dX8_unlike_59 (by decide) ?_
        first | (simp only [if_pos c10] at KJ; exact KJ) | (simp only [if_pos c10, ite_true, ite_false, eq_self] at KJ; exact KJ) | (simp only [if_pos c10] at KJ ⊢; exact KJ) | exact KJ
      · refine g_iconst (v := 1) dX8_unlike_55 (by decide) ?_
        refine g_goto (tgt := 60) dX8_unlike_56 (by decide) ?_
        first | (simp only [if_neg c10] at KJ; exact KJ) | (simp only [if_neg c10, ite_true, ite_false, eq_self] at KJ; exact KJ) | (simp only [if_neg c10] at KJ ⊢; exact KJ) | exact KJ
theorem dX8_draw_0 : decode cX8_draw 0 = .ok (.aload_n 0, 1) := by decide +kernel
theorem dX8_draw_1 : decode cX8_draw 1 = .ok (.aload_n 0, 1) := by decide +kernel
theorem dX8_draw_2 : decode cX8_draw 2 = .ok (.getfield 435, 3) := by decide +kernel
theorem dX8_draw_5 : decode cX8_draw 5 = .ok (.ldc_w 438, 3) := by decide +kernel
theorem dX8_draw_8 : decode cX8_draw 8 = .ok (.imul, 1) := by decide +kernel
theorem dX8_draw_9 : decode cX8_draw 9 = .ok (.sipush 12345, 3) := by decide +kernel
theorem dX8_draw_12 : decode cX8_draw 12 = .ok (.iadd, 1) := by decide +kernel
theorem dX8_draw_13 : decode cX8_draw 13 = .ok (.putfield 435, 3) := by decide +kernel
theorem dX8_draw_16 : decode cX8_draw 16 = .ok (.aload_n 0, 1) := by decide +kernel
theorem dX8_draw_17 : decode cX8_draw 17 = .ok (.getfield 435, 3) := by decide +kernel
theorem dX8_draw_20 : decode cX8_draw 20 = .ok (.bipush 16, 2) := by decide +kernel
theorem dX8_draw_22 : decode cX8_draw 22 = .ok (.ishr, 1) := by decide +kernel
theorem dX8_draw_23 : decode cX8_draw 23 = .ok (.sipush 32767, 3) := by decide +kernel
theorem dX8_draw_26 : decode cX8_draw 26 = .ok (.iand, 1) := by decide +kernel
theorem dX8_draw_27 : decode cX8_draw 27 = .ok (.iload_n 1, 1) := by decide +kernel
theorem dX8_draw_28 : decode cX8_draw 28 = .ok (.irem, 1) := by decide +kernel
theorem dX8_draw_29 : decode cX8_draw 29 = .ok (.ireturn, 1) := by decide +kernel
set_option maxRecDepth 20000 in
set_option maxHeartbeats 4000000 in
theorem vX8_draw_0 {l : Launch} {x : CX} {a0 : Nat} {x1 : Int32} {h : PH} {rc rs n0 : Nat} {Q : Option Value → PH → Prop} {X : String → PH → Prop}
    (K : ((hK h a0).1 = 8) ∧ (¬ x1 = 0) ∧ Q (some (.int ((((hI (sI h a0 32 (((hI h a0 32) * 1103515245) + 12345)) a0 32) >>> ((16 : Int32) &&& 31)) &&& 32767) - (((hI (sI h a0 32 (((hI h a0 32) * 1103515245) + 12345)) a0 32) >>> ((16 : Int32) &&& 31)) &&& 32767) / x1 * x1))) (sI h a0 32 (((hI h a0 32) * 1103515245) + 12345))) :
    Gm l x mX8_draw 0 0 [(0, .ref a0), (1, .int x1)] [] h rc rs n0 Q X := by
  refine g_aload_n dX8_draw_0 rfl 0 rfl ?_
  refine g_aload_n dX8_draw_1 rfl 0 rfl ?_
  obtain ⟨e1, K⟩ := K
  refine g_get (c := 8) (k := 32) (v := .int (hI h a0 32)) dX8_draw_2 fc_8 (by decide) (by decide) bw_1230 rfl e1 ?_
  refine g_ldcw (v := 1103515245) dX8_draw_5 bw_1739 ?_
  refine g_imul dX8_draw_8 ?_
  refine g_sipush (v := 12345) dX8_draw_9 (by decide) ?_
  refine g_iadd dX8_draw_12 ?_
  refine g_puti (c := 8) (k := 32) dX8_draw_13 fc_8 (by decide) (by decide) bw_1230 (Or.inl rfl) rfl e1 ?_
  refine g_aload_n dX8_draw_16 rfl 0 rfl ?_
  refine g_get (c := 8) (k := 32) (v := .int (hI (sI h a0 32 (((hI h a0 32) * 1103515245) + 12345)) a0 32)) dX8_draw_17 fc_8 (by decide) (by decide) bw_1230 rfl (kkI e1) ?_
  refine g_bipush (v := 16) dX8_draw_20 (by decide) ?_
  refine g_ishr dX8_draw_22 ?_
  refine g_sipush (v := 32767) dX8_draw_23 (by decide) ?_
  refine g_iand dX8_draw_26 ?_
  refine g_iload_n dX8_draw_27 rfl 1 rfl ?_
  obtain ⟨e2, K⟩ := K
  refine g_irem dX8_draw_28 e2 ?_
  exact g_iret dX8_draw_29 rfl K
theorem dX8_stepOn_0 : decode cX8_stepOn 0 = .ok (.aload_n 0, 1) := by decide +kernel
theorem dX8_stepOn_1 : decode cX8_stepOn 1 = .ok (.aload_n 0, 1) := by decide +kernel
theorem dX8_stepOn_2 : decode cX8_stepOn 2 = .ok (.getfield 113, 3) := by decide +kernel
theorem dX8_stepOn_5 : decode cX8_stepOn 5 = .ok (.invokevirtual 116, 3) := by decide +kernel
theorem dX8_stepOn_8 : decode cX8_stepOn 8 = .ok (.bipush 32, 2) := by decide +kernel
theorem dX8_stepOn_10 : decode cX8_stepOn 10 = .ok (.if_icmp .eq 16, 3) := by decide +kernel
theorem dX8_stepOn_13 : decode cX8_stepOn 13 = .ok (.aload_n 0, 1) := by decide +kernel
theorem dX8_stepOn_14 : decode cX8_stepOn 14 = .ok (.aload_n 0, 1) := by decide +kernel
theorem dX8_stepOn_15 : decode cX8_stepOn 15 = .ok (.getfield 113, 3) := by decide +kernel
theorem dX8_stepOn_18 : decode cX8_stepOn 18 = .ok (.invokevirtual 116, 3) := by decide +kernel
theorem dX8_stepOn_21 : decode cX8_stepOn 21 = .ok (.bipush 10, 2) := by decide +kernel
theorem dX8_stepOn_23 : decode cX8_stepOn 23 = .ok (.if_icmp .ne 16, 3) := by decide +kernel
theorem dX8_stepOn_26 : decode cX8_stepOn 26 = .ok (.aload_n 0, 1) := by decide +kernel
theorem dX8_stepOn_27 : decode cX8_stepOn 27 = .ok (.dup, 1) := by decide +kernel
theorem dX8_stepOn_28 : decode cX8_stepOn 28 = .ok (.getfield 113, 3) := by decide +kernel
theorem dX8_stepOn_31 : decode cX8_stepOn 31 = .ok (.iconst 1, 1) := by decide +kernel
theorem dX8_stepOn_32 : decode cX8_stepOn 32 = .ok (.iadd, 1) := by decide +kernel
theorem dX8_stepOn_33 : decode cX8_stepOn 33 = .ok (.putfield 113, 3) := by decide +kernel
theorem dX8_stepOn_36 : decode cX8_stepOn 36 = .ok (.goto (-36), 3) := by decide +kernel
theorem dX8_stepOn_39 : decode cX8_stepOn 39 = .ok (.aload_n 0, 1) := by decide +kernel
theorem dX8_stepOn_40 : decode cX8_stepOn 40 = .ok (.aload_n 0, 1) := by decide +kernel
theorem dX8_stepOn_41 : decode cX8_stepOn 41 = .ok (.getfield 113, 3) := by decide +kernel
theorem dX8_stepOn_44 : decode cX8_stepOn 44 = .ok (.putfield 120, 3) := by decide +kernel
theorem dX8_stepOn_47 : decode cX8_stepOn 47 = .ok (.aload_n 0, 1) := by decide +kernel
theorem dX8_stepOn_48 : decode cX8_stepOn 48 = .ok (.aload_n 0, 1) := by decide +kernel
theorem dX8_stepOn_49 : decode cX8_stepOn 49 = .ok (.getfield 113, 3) := by decide +kernel
theorem dX8_stepOn_52 : decode cX8_stepOn 52 = .ok (.invokevirtual 116, 3) := by decide +kernel
theorem dX8_stepOn_55 : decode cX8_stepOn 55 = .ok (.istore_n 1, 1) := by decide +kernel
theorem dX8_stepOn_56 : decode cX8_stepOn 56 = .ok (.iload_n 1, 1) := by decide +kernel
theorem dX8_stepOn_57 : decode cX8_stepOn 57 = .ok (.iconst (-1), 1) := by decide +kernel
theorem dX8_stepOn_58 : decode cX8_stepOn 58 = .ok (.if_icmp .ne 11, 3) := by decide +kernel
theorem dX8_stepOn_61 : decode cX8_stepOn 61 = .ok (.aload_n 0, 1) := by decide +kernel
theorem dX8_stepOn_62 : decode cX8_stepOn 62 = .ok (.iconst 0, 1) := by decide +kernel
theorem dX8_stepOn_63 : decode cX8_stepOn 63 = .ok (.putfield 123, 3) := by decide +kernel
theorem dX8_stepOn_66 : decode cX8_stepOn 66 = .ok (.goto 145, 3) := by decide +kernel
theorem dX8_stepOn_69 : decode cX8_stepOn 69 = .ok (.iload_n 1, 1) := by decide +kernel
theorem dX8_stepOn_70 : decode cX8_stepOn 70 = .ok (.invokestatic 126, 3) := by decide +kernel
theorem dX8_stepOn_73 : decode cX8_stepOn 73 = .ok (.ifCond .eq 38, 3) := by decide +kernel
theorem dX8_stepOn_76 : decode cX8_stepOn 76 = .ok (.aload_n 0, 1) := by decide +kernel
theorem dX8_stepOn_77 : decode cX8_stepOn 77 = .ok (.aload_n 0, 1) := by decide +kernel
theorem dX8_stepOn_78 : decode cX8_stepOn 78 = .ok (.getfield 113, 3) := by decide +kernel
theorem dX8_stepOn_81 : decode cX8_stepOn 81 = .ok (.invokevirtual 116, 3) := by decide +kernel
theorem dX8_stepOn_84 : decode cX8_stepOn 84 = .ok (.invokestatic 126, 3) := by decide +kernel
theorem dX8_stepOn_87 : decode cX8_stepOn 87 = .ok (.ifCond .eq 16, 3) := by decide +kernel
theorem dX8_stepOn_90 : decode cX8_stepOn 90 = .ok (.aload_n 0, 1) := by decide +kernel
theorem dX8_stepOn_91 : decode cX8_stepOn 91 = .ok (.dup, 1) := by decide +kernel
theorem dX8_stepOn_92 : decode cX8_stepOn 92 = .ok (.getfield 113, 3) := by decide +kernel
theorem dX8_stepOn_95 : decode cX8_stepOn 95 = .ok (.iconst 1, 1) := by decide +kernel
theorem dX8_stepOn_96 : decode cX8_stepOn 96 = .ok (.iadd, 1) := by decide +kernel
theorem dX8_stepOn_97 : decode cX8_stepOn 97 = .ok (.putfield 113, 3) := by decide +kernel
theorem dX8_stepOn_100 : decode cX8_stepOn 100 = .ok (.goto (-24), 3) := by decide +kernel
theorem dX8_stepOn_103 : decode cX8_stepOn 103 = .ok (.aload_n 0, 1) := by decide +kernel
theorem dX8_stepOn_104 : decode cX8_stepOn 104 = .ok (.iconst 1, 1) := by decide +kernel
theorem dX8_stepOn_105 : decode cX8_stepOn 105 = .ok (.putfield 123, 3) := by decide +kernel
theorem dX8_stepOn_108 : decode cX8_stepOn 108 = .ok (.goto 103, 3) := by decide +kernel
theorem dX8_stepOn_111 : decode cX8_stepOn 111 = .ok (.iload_n 1, 1) := by decide +kernel
theorem dX8_stepOn_112 : decode cX8_stepOn 112 = .ok (.invokestatic 130, 3) := by decide +kernel
theorem dX8_stepOn_115 : decode cX8_stepOn 115 = .ok (.ifCond .eq 71, 3) := by decide +kernel
theorem dX8_stepOn_118 : decode cX8_stepOn 118 = .ok (.aload_n 0, 1) := by decide +kernel
theorem dX8_stepOn_119 : decode cX8_stepOn 119 = .ok (.iconst 0, 1) := by decide +kernel
theorem dX8_stepOn_120 : decode cX8_stepOn 120 = .ok (.putfield 133, 3) := by decide +kernel
theorem dX8_stepOn_123 : decode cX8_stepOn 123 = .ok (.aload_n 0, 1) := by decide +kernel
theorem dX8_stepOn_124 : decode cX8_stepOn 124 = .ok (.aload_n 0, 1) := by decide +kernel
theorem dX8_stepOn_125 : decode cX8_stepOn 125 = .ok (.getfield 113, 3) := by decide +kernel
theorem dX8_stepOn_128 : decode cX8_stepOn 128 = .ok (.invokevirtual 116, 3) := by decide +kernel
theorem dX8_stepOn_131 : decode cX8_stepOn 131 = .ok (.invokestatic 130, 3) := by decide +kernel
theorem dX8_stepOn_134 : decode cX8_stepOn 134 = .ok (.ifCond .eq 44, 3) := by decide +kernel
theorem dX8_stepOn_137 : decode cX8_stepOn 137 = .ok (.aload_n 0, 1) := by decide +kernel
theorem dX8_stepOn_138 : decode cX8_stepOn 138 = .ok (.ldc 136, 2) := by decide +kernel
theorem dX8_stepOn_140 : decode cX8_stepOn 140 = .ok (.bipush 10, 2) := by decide +kernel
theorem dX8_stepOn_142 : decode cX8_stepOn 142 = .ok (.aload_n 0, 1) := by decide +kernel
theorem dX8_stepOn_143 : decode cX8_stepOn 143 = .ok (.getfield 133, 3) := by decide +kernel
theorem dX8_stepOn_146 : decode cX8_stepOn 146 = .ok (.imul, 1) := by decide +kernel
theorem dX8_stepOn_147 : decode cX8_stepOn 147 = .ok (.aload_n 0, 1) := by decide +kernel
theorem dX8_stepOn_148 : decode cX8_stepOn 148 = .ok (.aload_n 0, 1) := by decide +kernel
theorem dX8_stepOn_149 : decode cX8_stepOn 149 = .ok (.getfield 113, 3) := by decide +kernel
theorem dX8_stepOn_152 : decode cX8_stepOn 152 = .ok (.invokevirtual 116, 3) := by decide +kernel
theorem dX8_stepOn_155 : decode cX8_stepOn 155 = .ok (.iadd, 1) := by decide +kernel
theorem dX8_stepOn_156 : decode cX8_stepOn 156 = .ok (.bipush 48, 2) := by decide +kernel
theorem dX8_stepOn_158 : decode cX8_stepOn 158 = .ok (.isub, 1) := by decide +kernel
theorem dX8_stepOn_159 : decode cX8_stepOn 159 = .ok (.invokestatic 137, 3) := by decide +kernel
theorem dX8_stepOn_162 : decode cX8_stepOn 162 = .ok (.putfield 133, 3) := by decide +kernel
theorem dX8_stepOn_165 : decode cX8_stepOn 165 = .ok (.aload_n 0, 1) := by decide +kernel
theorem dX8_stepOn_166 : decode cX8_stepOn 166 = .ok (.dup, 1) := by decide +kernel
theorem dX8_stepOn_167 : decode cX8_stepOn 167 = .ok (.getfield 113, 3) := by decide +kernel
theorem dX8_stepOn_170 : decode cX8_stepOn 170 = .ok (.iconst 1, 1) := by decide +kernel
theorem dX8_stepOn_171 : decode cX8_stepOn 171 = .ok (.iadd, 1) := by decide +kernel
theorem dX8_stepOn_172 : decode cX8_stepOn 172 = .ok (.putfield 113, 3) := by decide +kernel
theorem dX8_stepOn_175 : decode cX8_stepOn 175 = .ok (.goto (-52), 3) := by decide +kernel
theorem dX8_stepOn_178 : decode cX8_stepOn 178 = .ok (.aload_n 0, 1) := by decide +kernel
theorem dX8_stepOn_179 : decode cX8_stepOn 179 = .ok (.iconst 2, 1) := by decide +kernel
theorem dX8_stepOn_180 : decode cX8_stepOn 180 = .ok (.putfield 123, 3) := by decide +kernel
theorem dX8_stepOn_183 : decode cX8_stepOn 183 = .ok (.goto 28, 3) := by decide +kernel
theorem dX8_stepOn_186 : decode cX8_stepOn 186 = .ok (.aload_n 0, 1) := by decide +kernel
theorem dX8_stepOn_187 : decode cX8_stepOn 187 = .ok (.dup, 1) := by decide +kernel
theorem dX8_stepOn_188 : decode cX8_stepOn 188 = .ok (.getfield 113, 3) := by decide +kernel
theorem dX8_stepOn_191 : decode cX8_stepOn 191 = .ok (.iconst 1, 1) := by decide +kernel
theorem dX8_stepOn_192 : decode cX8_stepOn 192 = .ok (.iadd, 1) := by decide +kernel
theorem dX8_stepOn_193 : decode cX8_stepOn 193 = .ok (.putfield 113, 3) := by decide +kernel
theorem dX8_stepOn_196 : decode cX8_stepOn 196 = .ok (.aload_n 0, 1) := by decide +kernel
theorem dX8_stepOn_197 : decode cX8_stepOn 197 = .ok (.iload_n 1, 1) := by decide +kernel
theorem dX8_stepOn_198 : decode cX8_stepOn 198 = .ok (.bipush 59, 2) := by decide +kernel
theorem dX8_stepOn_200 : decode cX8_stepOn 200 = .ok (.if_icmp .ne 7, 3) := by decide +kernel
theorem dX8_stepOn_203 : decode cX8_stepOn 203 = .ok (.iconst 3, 1) := by decide +kernel
theorem dX8_stepOn_204 : decode cX8_stepOn 204 = .ok (.goto 4, 3) := by decide +kernel
theorem dX8_stepOn_207 : decode cX8_stepOn 207 = .ok (.iconst 4, 1) := by decide +kernel
theorem dX8_stepOn_208 : decode cX8_stepOn 208 = .ok (.putfield 123, 3) := by decide +kernel
theorem dX8_stepOn_211 : decode cX8_stepOn 211 = .ok (.aload_n 0, 1) := by decide +kernel
theorem dX8_stepOn_212 : decode cX8_stepOn 212 = .ok (.aload_n 0, 1) := by decide +kernel
theorem dX8_stepOn_213 : decode cX8_stepOn 213 = .ok (.getfield 113, 3) := by decide +kernel
theorem dX8_stepOn_216 : decode cX8_stepOn 216 = .ok (.putfield 143, 3) := by decide +kernel
theorem dX8_stepOn_219 : decode cX8_stepOn 219 = .ok (.return_, 1) := by decide +kernel
set_option maxRecDepth 20000 in
set_option maxHeartbeats 4000000 in
theorem vX8_stepOn_0 {l : Launch} {x : CX} {a0 : Nat} {h : PH} {rc rs n0 : Nat} {Q : Option Value → PH → Prop} {X : String → PH → Prop}
    (K : ((hK h a0).1 = 8) ∧ ∃ (q2 : Int32 → PH → Prop), CI l x mX8_byteAt 0 0 0 [.ref a0, .int (hI h a0 12)] h q2 ∧ ∀ (r5 : Int32) (h4 : PH), q2 r5 h4 → ((r5 = 32 → ((hK h4 a0).1 = 8) ∧ Gm l x mX8_stepOn 1 0 [(0, .ref a0)] [] (sI h4 a0 12 ((hI h4 a0 12) + 1)) rc rs n0 Q X) ∧ (¬ r5 = 32 → Gm l x mX8_stepOn 1 13 [(0, .ref a0)] [] h4 rc rs n0 Q X))) :
    Gm l x mX8_stepOn 1 0 [(0, .ref a0)] [] h rc rs n0 Q X := by
  refine g_aload_n dX8_stepOn_0 rfl 0 rfl ?_
  refine g_aload_n dX8_stepOn_1 rfl 0 rfl ?_
  obtain ⟨e1, K⟩ := K
  refine g_get (c := 8) (k := 12) (v := .int (hI h a0 12)) dX8_stepOn_2 fc_8 (by decide) (by decide) bw_1210 rfl e1 ?_
  obtain ⟨q2, C3, K⟩ := K
  refine g_callV (M' := mX8_byteAt) (b := a0) (As := [.int (hI h a0 12)]) (rest := []) (rc' := rc) (rs' := rs) dX8_stepOn_5 bw_1345 bw_1347 bs_41 bw_9 bw_1348 ⟨by decide +kernel, by decide +kernel, show (parseMethodDescriptor mX8_byteAt.1.desc).map (fun d => d.parameters.length) = some 1 by decide +kernel⟩ (by decide) (by decide) (Nat.le_of_ble_eq_true rfl) fc_8 (by decide) rfl e1 C3 (Nat.le_of_eq (Nat.add_zero _)) (Nat.le_of_eq (Nat.add_zero _)) (fun _ _ h => h) ?_
  rintro _ h4 ⟨r5, rfl, K1⟩ -
  replace K := K r5 h4 K1
  show Gm l x mX8_stepOn 1 8 [(0, .ref a0)] [.int r5] h4 rc rs n0 Q X
  refine g_bipush (v := 32) dX8_stepOn_8 (by decide) ?_
  refine g_icmp_eq (tgt := 26) dX8_stepOn_10 (by decide) (fun c6 => ?_) (fun c6 => ?_)
  · replace K := K.1 c6
    refine g_aload_n dX8_stepOn_26 rfl 0 rfl ?_
    refine g_dup dX8_stepOn_27 rfl ?_
    obtain ⟨e7, K⟩ := K
    refine g_get (c := 8) (k := 12) (v := .int (hI h4 a0 12)) dX8_stepOn_28 fc_8 (by decide) (by decide) bw_1210 rfl e7 ?_
    refine g_iconst (v := 1) dX8_stepOn_31 (by decide) ?_
    refine g_iadd dX8_stepOn_32 ?_
    refine g_puti (c := 8) (k := 12) dX8_stepOn_33 fc_8 (by decide) (by decide) bw_1210 (Or.inl rfl) rfl e7 ?_
    refine g_goto (tgt := 0) dX8_stepOn_36 (by decide) ?_
    exact K
  · replace K := K.2 c6
    exact K
set_option maxRecDepth 20000 in
set_option maxHeartbeats 4000000 in
theorem vX8_stepOn_13 {l : Launch} {x : CX} {a0 : Nat} {h : PH} {rc rs n0 : Nat} {Q : Option Value → PH → Prop} {X : String → PH → Prop}
    (K : ((hK h a0).1 = 8) ∧ ∃ (q2 : Int32 → PH → Prop), CI l x mX8_byteAt 0 0 0 [.ref a0, .int (hI h a0 12)] h q2 ∧ ∀ (r5 : Int32) (h4 : PH), q2 r5 h4 → ((¬ r5 = 10 → Gm l x mX8_stepOn 1 39 [(0, .ref a0)] [] h4 rc rs n0 Q X) ∧ (r5 = 10 → ((hK h4 a0).1 = 8) ∧ Gm l x mX8_stepOn 1 0 [(0, .ref a0)] [] (sI h4 a0 12 ((hI h4 a0 12) + 1)) rc rs n0 Q X))) :
    Gm l x mX8_stepOn 1 13 [(0, .ref a0)] [] h rc rs n0 Q X := by
  refine g_aload_n dX8_stepOn_13 rfl 0 rfl ?_
  refine g_aload_n dX8_stepOn_14 rfl 0 rfl ?_
  obtain ⟨e1, K⟩ := K
  refine g_get (c := 8) (k := 12) (v := .int (hI h a0 12)) dX8_stepOn_15 fc_8 (by decide) (by decide) bw_1210 rfl e1 ?_
  obtain ⟨q2, C3, K⟩ := K
  refine g_callV (M' := mX8_byteAt) (b := a0) (As := [.int (hI h a0 12)]) (rest := []) (rc' := rc) (rs' := rs) dX8_stepOn_18 bw_1345 bw_1347 bs_41 bw_9 bw_1348 ⟨by decide +kernel, by decide +kernel, show (parseMethodDescriptor mX8_byteAt.1.desc).map (fun d => d.parameters.length) = some 1 by decide +kernel⟩ (by decide) (by decide) (Nat.le_of_ble_eq_true rfl) fc_8 (by decide) rfl e1 C3 (Nat.le_of_eq (Nat.add_zero _)) (Nat.le_of_eq (Nat.add_zero _)) (fun _ _ h => h) ?_
  rintro _ h4 ⟨r5, rfl, K1⟩ -
  replace K := K r5 h4 K1
  show Gm l x mX8_stepOn 1 21 [(0, .ref a0)] [.int r5] h4 rc rs n0 Q X
  refine g_bipush (v := 10) dX8_stepOn_21 (by decide) ?_
  refine g_icmp_ne (tgt := 39) dX8_stepOn_23 (by decide) (fun c6 => ?_) (fun c6 => ?_)
  · replace K := K.1 c6
    exact K
  · replace K := K.2 c6
    refine g_aload_n dX8_stepOn_26 rfl 0 rfl ?_
    refine g_dup dX8_stepOn_27 rfl ?_
    obtain ⟨e7, K⟩ := K
    refine g_get (c := 8) (k := 12) (v := .int (hI h4 a0 12)) dX8_stepOn_28 fc_8 (by decide) (by decide) bw_1210 rfl e7 ?_
    refine g_iconst (v := 1) dX8_stepOn_31 (by decide) ?_
    refine g_iadd dX8_stepOn_32 ?_
    refine g_puti (c := 8) (k := 12) dX8_stepOn_33 fc_8 (by decide) (by decide) bw_1210 (Or.inl rfl) rfl e7 ?_
    refine g_goto (tgt := 0) dX8_stepOn_36 (by decide) ?_
    exact K
set_option maxRecDepth 20000 in
set_option maxHeartbeats 4000000 in
theorem vX8_stepOn_39 {l : Launch} {x : CX} {a0 : Nat} {h : PH} {rc rs n0 : Nat} {Q : Option Value → PH → Prop} {X : String → PH → Prop}
    (K : ((hK h a0).1 = 8) ∧ ∃ (q2 : Int32 → PH → Prop), CI l x mX8_byteAt 0 0 0 [.ref a0, .int (hI h a0 12)] (sI h a0 16 (hI h a0 12)) q2 ∧ ∀ (r5 : Int32) (h4 : PH), q2 r5 h4 → ((¬ r5 = (-1) → ∃ (q7 : Int32 → PH → Prop), CI l x mX8_isLetter 0 0 0 [.int r5] h4 q7 ∧ ∀ (r10 : Int32) (h9 : PH), q7 r10 h9 → ((r10 = 0 → ∃ (q12 : Int32 → PH → Prop), CI l x mX8_isDigit 0 0 0 [.int r5] h9 q12 ∧ ∀ (r15 : Int32) (h14 : PH), q12 r15 h14 → ((r15 = 0 → ((hK h14 a0).1 = 8) ∧ Q none (sI (sI (sI h14 a0 12 ((hI h14 a0 12) + 1)) a0 14 (if r5 = 59 then 3 else 4 : Int32)) a0 17 (hI (sI h14 a0 12 ((hI h14 a0 12) + 1)) a0 12))) ∧ (¬ r15 = 0 → ((hK h14 a0).1 = 8) ∧ Gm l x mX8_stepOn 1 123 [(0, .ref a0), (1, .int r5)] [] (sI h14 a0 15 0) rc rs n0 Q X))) ∧ (¬ r10 = 0 → Gm l x mX8_stepOn 1 76 [(0, .ref a0), (1, .int r5)] [] h9 rc rs n0 Q X))) ∧ (r5 = (-1) → ((hK h4 a0).1 = 8) ∧ Q none (sI (sI h4 a0 14 0) a0 17 (hI h4 a0 12))))) :
    Gm l x mX8_stepOn 1 39 [(0, .ref a0)] [] h rc rs n0 Q X := by
  refine g_aload_n dX8_stepOn_39 rfl 0 rfl ?_
  refine g_aload_n dX8_stepOn_40 rfl 0 rfl ?_
  obtain ⟨e1, K⟩ := K
  refine g_get (c := 8) (k := 12) (v := .int (hI h a0 12)) dX8_stepOn_41 fc_8 (by decide) (by decide) bw_1210 rfl e1 ?_
  refine g_puti (c := 8) (k := 16) dX8_stepOn_44 fc_8 (by decide) (by decide) bw_1214 (Or.inl rfl) rfl e1 ?_
  refine g_aload_n dX8_stepOn_47 rfl 0 rfl ?_
  refine g_aload_n dX8_stepOn_48 rfl 0 rfl ?_
  refine g_get (c := 8) (k := 12) (v := .int (hI h a0 12)) dX8_stepOn_49 fc_8 (by decide) (by decide) bw_1210 (congrArg Value.int ((skI (by decide)).trans rfl)) (kkI e1) ?_
  obtain ⟨q2, C3, K⟩ := K
  refine g_callV (M' := mX8_byteAt) (b := a0) (As := [.int (hI h a0 12)]) (rest := []) (rc' := rc) (rs' := rs) dX8_stepOn_52 bw_1345 bw_1347 bs_41 bw_9 bw_1348 ⟨by decide +kernel, by decide +kernel, show (parseMethodDescriptor mX8_byteAt.1.desc).map (fun d => d.parameters.length) = some 1 by decide +kernel⟩ (by decide) (by decide) (Nat.le_of_ble_eq_true rfl) fc_8 (by decide) rfl (kkI e1) C3 (Nat.le_of_eq (Nat.add_zero _)) (Nat.le_of_eq (Nat.add_zero _)) (fun _ _ h => h) ?_
  rintro _ h4 ⟨r5, rfl, K1⟩ -
  replace K := K r5 h4 K1
  show Gm l x mX8_stepOn 1 55 [(0, .ref a0)] [.int r5] h4 rc rs n0 Q X
  refine g_istore_n (lv' := [(0, .ref a0), (1, .int r5)]) dX8_stepOn_55 rfl (by decide) rfl ?_
  refine g_iload_n dX8_stepOn_56 rfl 1 rfl ?_
  refine g_iconst (v := (-1)) dX8_stepOn_57 (by decide) ?_
  refine g_icmp_ne (tgt := 69) dX8_stepOn_58 (by decide) (fun c6 => ?_) (fun c6 => ?_)
  · replace K := K.1 c6
    refine g_iload_n dX8_stepOn_69 rfl 1 rfl ?_
    obtain ⟨q7, C8, K⟩ := K
    refine g_callS (M' := mX8_isLetter) (As := [.int r5]) (rest := []) (rc' := rc) (rs' := rs) dX8_stepOn_70 bw_1349 bw_1350 bw_9 bw_1351 ⟨by decide +kernel, by decide +kernel, show (parseMethodDescriptor mX8_isLetter.1.desc).map (fun d => d.parameters.length) = some 1 by decide +kernel⟩ (by decide) (by decide) (Nat.le_of_ble_eq_true rfl) C8 (Nat.le_of_eq (Nat.add_zero _)) (Nat.le_of_eq (Nat.add_zero _)) (fun _ _ h => h) ?_
    rintro _ h9 ⟨r10, rfl, K1⟩ -
    replace K := K r10 h9 K1
    show Gm l x mX8_stepOn 1 73 [(0, .ref a0), (1, .int r5)] [.int r10] h9 rc rs n0 Q X
    refine g_if_eq (tgt := 111) dX8_stepOn_73 (by decide) (fun c11 => ?_) (fun c11 => ?_)
    · replace K := K.1 c11
      refine g_iload_n dX8_stepOn_111 rfl 1 rfl ?_
      obtain ⟨q12, C13, K⟩ := K
      refine g_callS (M' := mX8_isDigit) (As := [.int r5]) (rest := []) (rc' := rc) (rs' := rs) dX8_stepOn_112 bw_1352 bw_1353 bw_9 bw_1354 ⟨by decide +kernel, by decide +kernel, show (parseMethodDescriptor mX8_isDigit.1.desc).map (fun d => d.parameters.length) = some 1 by decide +kernel⟩ (by decide) (by decide) (Nat.le_of_ble_eq_true rfl) C13 (Nat.le_of_eq (Nat.add_zero _)) (Nat.le_of_eq (Nat.add_zero _)) (fun _ _ h => h) ?_
      rintro _ h14 ⟨r15, rfl, K1⟩ -
      replace K := K r15 h14 K1
      show Gm l x mX8_stepOn 1 115 [(0, .ref a0), (1, .int r5)] [.int r15] h14 rc rs n0 Q X
      refine g_if_eq (tgt := 186) dX8_stepOn_115 (by decide) (fun c16 => ?_) (fun c16 => ?_)
      · replace K := K.1 c16
        refine g_aload_n dX8_stepOn_186 rfl 0 rfl ?_
        refine g_dup dX8_stepOn_187 rfl ?_
        obtain ⟨e17, K⟩ := K
        refine g_get (c := 8) (k := 12) (v := .int (hI h14 a0 12)) dX8_stepOn_188 fc_8 (by decide) (by decide) bw_1210 rfl e17 ?_
        refine g_iconst (v := 1) dX8_stepOn_191 (by decide) ?_
        refine g_iadd dX8_stepOn_192 ?_
        refine g_puti (c := 8) (k := 12) dX8_stepOn_193 fc_8 (by decide) (by decide) bw_1210 (Or.inl rfl) rfl e17 ?_
        refine g_aload_n dX8_stepOn_196 rfl 0 rfl ?_
        refine g_iload_n dX8_stepOn_197 rfl 1 rfl ?_
        refine g_bipush (v := 59) dX8_stepOn_198 (by decide) ?_
        have KJ : Gm l x mX8_stepOn 1 208 [(0, .ref a0), (1, .int r5)] [.int (if r5 = 59 then 3 else 4 : Int32), .ref a0] (sI h14 a0 12 ((hI h14 a0 12) + 1)) rc rs n0 Q X := by
          refine g_puti (c := 8) (k := 14) dX8_stepOn_208 fc_8 (by decide) (by decide) bw_1212 (Or.inl rfl) rfl (kkI e17) ?_
          refine g_aload_n dX8_stepOn_211 rfl 0 rfl ?_
          refine g_aload_n dX8_stepOn_212 rfl 0 rfl ?_
          refine g_get (c := 8) (k := 12) (v := .int (hI (sI h14 a0 12 ((hI h14 a0 12) + 1)) a0 12)) dX8_stepOn_213 fc_8 (by decide) (by decide) bw_1210 (congrArg Value.int ((skI (by decide)).trans rfl)) (kkI (kkI e17)) ?_
          refine g_puti (c := 8) (k := 17) dX8_stepOn_216 fc_8 (by decide) (by decide) bw_1215 (Or.inl rfl) rfl (kkI (kkI e17)) ?_
          exact g_vret dX8_stepOn_219 rfl K
        refine g_icmp_ne (tgt := 207) dX8_stepOn_200 (by decide) (fun c18 => ?_) (fun c18 => ?_)
        · refine g_iconst (v := 4) dX8_stepOn_207 (by decide) ?_
          first | (simp only [if_neg c18] at KJ; exact KJ) | (simp only [if_neg c18, ite_true, ite_false, eq_self] at KJ; exact KJ) | (simp only [if_neg c18] at KJ ⊢; exact KJ) | exact KJ
        · refine g_iconst (v := 3) dX8_stepOn_203 (by decide) ?_
          refine g_goto (tgt := 208) dX8_stepOn_204 (by decide) ?_
          first | (simp only [if_pos c18] at KJ; exact KJ) | (simp only [if_pos c18, ite_true, ite_false, eq_self] at KJ; exact KJ) | (simp only [if_pos c18] at KJ ⊢; exact KJ) | exact KJ
      · replace K := K.2 c16
        refine g_aload_n dX8_stepOn_118 rfl 0 rfl ?_
        refine g_iconst (v := 0) dX8_stepOn_119 (by decide) ?_
        obtain ⟨e19, K⟩ := K
        refine g_puti (c := 8) (k := 15) dX8_stepOn_120 fc_8 (by decide) (by decide) bw_1213 (Or.inl rfl) rfl e19 ?_
        exact K
    · replace K := K.2 c11
      exact K
  · replace K := K.2 c6
    refine g_aload_n dX8_stepOn_61 rfl 0 rfl ?_
    refine g_iconst (v := 0) dX8_stepOn_62 (by decide) ?_
    obtain ⟨e20, K⟩ := K
    refine g_puti (c := 8) (k := 14) dX8_stepOn_63 fc_8 (by decide) (by decide) bw_1212 (Or.inl rfl) rfl e20 ?_
    refine g_goto (tgt := 211) dX8_stepOn_66 (by decide) ?_
    refine g_aload_n dX8_stepOn_211 rfl 0 rfl ?_
    refine g_aload_n dX8_stepOn_212 rfl 0 rfl ?_
    refine g_get (c := 8) (k := 12) (v := .int (hI h4 a0 12)) dX8_stepOn_213 fc_8 (by decide) (by decide) bw_1210 (congrArg Value.int ((skI (by decide)).trans rfl)) (kkI e20) ?_
    refine g_puti (c := 8) (k := 17) dX8_stepOn_216 fc_8 (by decide) (by decide) bw_1215 (Or.inl rfl) rfl (kkI e20) ?_
    exact g_vret dX8_stepOn_219 rfl K
set_option maxRecDepth 20000 in
set_option maxHeartbeats 4000000 in
theorem vX8_stepOn_76 {l : Launch} {x : CX} {a0 : Nat} {x1 : Int32} {h : PH} {rc rs n0 : Nat} {Q : Option Value → PH → Prop} {X : String → PH → Prop}
    (K : ((hK h a0).1 = 8) ∧ ∃ (q2 : Int32 → PH → Prop), CI l x mX8_byteAt 0 0 0 [.ref a0, .int (hI h a0 12)] h q2 ∧ ∀ (r5 : Int32) (h4 : PH), q2 r5 h4 → ∃ (q6 : Int32 → PH → Prop), CI l x mX8_isLetter 0 0 0 [.int r5] h4 q6 ∧ ∀ (r9 : Int32) (h8 : PH), q6 r9 h8 → ((r9 = 0 → ((hK h8 a0).1 = 8) ∧ Q none (sI (sI h8 a0 14 1) a0 17 (hI h8 a0 12))) ∧ (¬ r9 = 0 → ((hK h8 a0).1 = 8) ∧ Gm l x mX8_stepOn 1 76 [(0, .ref a0), (1, .int x1)] [] (sI h8 a0 12 ((hI h8 a0 12) + 1)) rc rs n0 Q X))) :
    Gm l x mX8_stepOn 1 76 [(0, .ref a0), (1, .int x1)] [] h rc rs n0 Q X := by
  refine g_aload_n dX8_stepOn_76 rfl 0 rfl ?_
  refine g_aload_n dX8_stepOn_77 rfl 0 rfl ?_
  obtain ⟨e1, K⟩ := K
  refine g_get (c := 8) (k := 12) (v := .int (hI h a0 12)) dX8_stepOn_78 fc_8 (by decide) (by decide) bw_1210 rfl e1 ?_
  obtain ⟨q2, C3, K⟩ := K
  refine g_callV (M' := mX8_byteAt) (b := a0) (As := [.int (hI h a0 12)]) (rest := []) (rc' := rc) (rs' := rs) dX8_stepOn_81 bw_1345 bw_1347 bs_41 bw_9 bw_1348 ⟨by decide +kernel, by decide +kernel, show (parseMethodDescriptor mX8_byteAt.1.desc).map (fun d => d.parameters.length) = some 1 by decide +kernel⟩ (by decide) (by decide) (Nat.le_of_ble_eq_true rfl) fc_8 (by decide) rfl e1 C3 (Nat.le_of_eq (Nat.add_zero _)) (Nat.le_of_eq (Nat.add_zero _)) (fun _ _ h => h) ?_
  rintro _ h4 ⟨r5, rfl, K1⟩ -
  replace K := K r5 h4 K1
  show Gm l x mX8_stepOn 1 84 [(0, .ref a0), (1, .int x1)] [.int r5] h4 rc rs n0 Q X
  obtain ⟨q6, C7, K⟩ := K
  refine g_callS (M' := mX8_isLetter) (As := [.int r5]) (rest := []) (rc' := rc) (rs' := rs) dX8_stepOn_84 bw_1349 bw_1350 bw_9 bw_1351 ⟨by decide +kernel, by decide +kernel, show (parseMethodDescriptor mX8_isLetter.1.desc).map (fun d => d.parameters.length) = some 1 by decide +kernel⟩ (by decide) (by decide) (Nat.le_of_ble_eq_true rfl) C7 (Nat.le_of_eq (Nat.add_zero _)) (Nat.le_of_eq (Nat.add_zero _)) (fun _ _ h => h) ?_
  rintro _ h8 ⟨r9, rfl, K1⟩ -
  replace K := K r9 h8 K1
  show Gm l x mX8_stepOn 1 87 [(0, .ref a0), (1, .int x1)] [.int r9] h8 rc rs n0 Q X
  refine g_if_eq (tgt := 103) dX8_stepOn_87 (by decide) (fun c10 => ?_) (fun c10 => ?_)
  · replace K := K.1 c10
    refine g_aload_n dX8_stepOn_103 rfl 0 rfl ?_
    refine g_iconst (v := 1) dX8_stepOn_104 (by decide) ?_
    obtain ⟨e11, K⟩ := K
    refine g_puti (c := 8) (k := 14) dX8_stepOn_105 fc_8 (by decide) (by decide) bw_1212 (Or.inl rfl) rfl e11 ?_
    refine g_goto (tgt := 211) dX8_stepOn_108 (by decide) ?_
    refine g_aload_n dX8_stepOn_211 rfl 0 rfl ?_
    refine g_aload_n dX8_stepOn_212 rfl 0 rfl ?_
    refine g_get (c := 8) (k := 12) (v := .int (hI h8 a0 12)) dX8_stepOn_213 fc_8 (by decide) (by decide) bw_1210 (congrArg Value.int ((skI (by decide)).trans rfl)) (kkI e11) ?_
    refine g_puti (c := 8) (k := 17) dX8_stepOn_216 fc_8 (by decide) (by decide) bw_1215 (Or.inl rfl) rfl (kkI e11) ?_
    exact g_vret dX8_stepOn_219 rfl K
  · replace K := K.2 c10
    refine g_aload_n dX8_stepOn_90 rfl 0 rfl ?_
    refine g_dup dX8_stepOn_91 rfl ?_
    obtain ⟨e12, K⟩ := K
    refine g_get (c := 8) (k := 12) (v := .int (hI h8 a0 12)) dX8_stepOn_92 fc_8 (by decide) (by decide) bw_1210 rfl e12 ?_
    refine g_iconst (v := 1) dX8_stepOn_95 (by decide) ?_
    refine g_iadd dX8_stepOn_96 ?_
    refine g_puti (c := 8) (k := 12) dX8_stepOn_97 fc_8 (by decide) (by decide) bw_1210 (Or.inl rfl) rfl e12 ?_
    refine g_goto (tgt := 76) dX8_stepOn_100 (by decide) ?_
    exact K
set_option maxRecDepth 20000 in
set_option maxHeartbeats 4000000 in
theorem vX8_stepOn_123 {l : Launch} {x : CX} {a0 : Nat} {x1 : Int32} {h : PH} {rc rs n0 : Nat} {Q : Option Value → PH → Prop} {X : String → PH → Prop}
    (K : ((hK h a0).1 = 8) ∧ ∃ (q2 : Int32 → PH → Prop), CI l x mX8_byteAt 0 0 0 [.ref a0, .int (hI h a0 12)] h q2 ∧ ∀ (r5 : Int32) (h4 : PH), q2 r5 h4 → ∃ (q6 : Int32 → PH → Prop), CI l x mX8_isDigit 0 0 0 [.int r5] h4 q6 ∧ ∀ (r9 : Int32) (h8 : PH), q6 r9 h8 → ((r9 = 0 → ((hK h8 a0).1 = 8) ∧ Q none (sI (sI h8 a0 14 2) a0 17 (hI h8 a0 12))) ∧ (¬ r9 = 0 → ((hK h8 a0).1 = 8) ∧ ∃ (q13 : Int32 → PH → Prop), CI l x mX8_byteAt 0 0 0 [.ref a0, .int (hI h8 a0 12)] h8 q13 ∧ ∀ (r16 : Int32) (h15 : PH), q13 r16 h15 → ((hK h15 a0).1 = 8) ∧ Gm l x mX8_stepOn 1 123 [(0, .ref a0), (1, .int x1)] [] (sI (sI h15 a0 15 (if (((10 * (hI h8 a0 15)) + r16) - 48) < 100000 then (((10 * (hI h8 a0 15)) + r16) - 48) else 100000)) a0 12 ((hI h15 a0 12) + 1)) rc rs n0 Q X))) :
    Gm l x mX8_stepOn 1 123 [(0, .ref a0), (1, .int x1)] [] h rc rs n0 Q X := by
  refine g_aload_n dX8_stepOn_123 rfl 0 rfl ?_
  refine g_aload_n dX8_stepOn_124 rfl 0 rfl ?_
  obtain ⟨e1, K⟩ := K
  refine g_get (c := 8) (k := 12) (v := .int (hI h a0 12)) dX8_stepOn_125 fc_8 (by decide) (by decide) bw_1210 rfl e1 ?_
  obtain ⟨q2, C3, K⟩ := K
  refine g_callV (M' := mX8_byteAt) (b := a0) (As := [.int (hI h a0 12)]) (rest := []) (rc' := rc) (rs' := rs) dX8_stepOn_128 bw_1345 bw_1347 bs_41 bw_9 bw_1348 ⟨by decide +kernel, by decide +kernel, show (parseMethodDescriptor mX8_byteAt.1.desc).map (fun d => d.parameters.length) = some 1 by decide +kernel⟩ (by decide) (by decide) (Nat.le_of_ble_eq_true rfl) fc_8 (by decide) rfl e1 C3 (Nat.le_of_eq (Nat.add_zero _)) (Nat.le_of_eq (Nat.add_zero _)) (fun _ _ h => h) ?_
  rintro _ h4 ⟨r5, rfl, K1⟩ -
  replace K := K r5 h4 K1
  show Gm l x mX8_stepOn 1 131 [(0, .ref a0), (1, .int x1)] [.int r5] h4 rc rs n0 Q X
  obtain ⟨q6, C7, K⟩ := K
  refine g_callS (M' := mX8_isDigit) (As := [.int r5]) (rest := []) (rc' := rc) (rs' := rs) dX8_stepOn_131 bw_1352 bw_1353 bw_9 bw_1354 ⟨by decide +kernel, by decide +kernel, show (parseMethodDescriptor mX8_isDigit.1.desc).map (fun d => d.parameters.length) = some 1 by decide +kernel⟩ (by decide) (by decide) (Nat.le_of_ble_eq_true rfl) C7 (Nat.le_of_eq (Nat.add_zero _)) (Nat.le_of_eq (Nat.add_zero _)) (fun _ _ h => h) ?_
  rintro _ h8 ⟨r9, rfl, K1⟩ -
  replace K := K r9 h8 K1
  show Gm l x mX8_stepOn 1 134 [(0, .ref a0), (1, .int x1)] [.int r9] h8 rc rs n0 Q X
  refine g_if_eq (tgt := 178) dX8_stepOn_134 (by decide) (fun c10 => ?_) (fun c10 => ?_)
  · replace K := K.1 c10
    refine g_aload_n dX8_stepOn_178 rfl 0 rfl ?_
    refine g_iconst (v := 2) dX8_stepOn_179 (by decide) ?_
    obtain ⟨e11, K⟩ := K
    refine g_puti (c := 8) (k := 14) dX8_stepOn_180 fc_8 (by decide) (by decide) bw_1212 (Or.inl rfl) rfl e11 ?_
    refine g_goto (tgt := 211) dX8_stepOn_183 (by decide) ?_
    refine g_aload_n dX8_stepOn_211 rfl 0 rfl ?_
    refine g_aload_n dX8_stepOn_212 rfl 0 rfl ?_
    refine g_get (c := 8) (k := 12) (v := .int (hI h8 a0 12)) dX8_stepOn_213 fc_8 (by decide) (by decide) bw_1210 (congrArg Value.int ((skI (by decide)).trans rfl)) (kkI e11) ?_
    refine g_puti (c := 8) (k := 17) dX8_stepOn_216 fc_8 (by decide) (by decide) bw_1215 (Or.inl rfl) rfl (kkI e11) ?_
    exact g_vret dX8_stepOn_219 rfl K
  · replace K := K.2 c10
    refine g_aload_n dX8_stepOn_137 rfl 0 rfl ?_
    refine g_ldc (v := 100000) dX8_stepOn_138 bw_1355 ?_
    refine g_bipush (v := 10) dX8_stepOn_140 (by decide) ?_
    refine g_aload_n dX8_stepOn_142 rfl 0 rfl ?_
    obtain ⟨e12, K⟩ := K
    refine g_get (c := 8) (k := 15) (v := .int (hI h8 a0 15)) dX8_stepOn_143 fc_8 (by decide) (by decide) bw_1213 rfl e12 ?_
    refine g_imul dX8_stepOn_146 ?_
    refine g_aload_n dX8_stepOn_147 rfl 0 rfl ?_
    refine g_aload_n dX8_stepOn_148 rfl 0 rfl ?_
    refine g_get (c := 8) (k := 12) (v := .int (hI h8 a0 12)) dX8_stepOn_149 fc_8 (by decide) (by decide) bw_1210 rfl e12 ?_
    obtain ⟨q13, C14, K⟩ := K
    refine g_callV (M' := mX8_byteAt) (b := a0) (As := [.int (hI h8 a0 12)]) (rest := [.int (10 * (hI h8 a0 15)), .int 100000, .ref a0]) (rc' := rc) (rs' := rs) dX8_stepOn_152 bw_1345 bw_1347 bs_41 bw_9 bw_1348 ⟨by decide +kernel, by decide +kernel, show (parseMethodDescriptor mX8_byteAt.1.desc).map (fun d => d.parameters.length) = some 1 by decide +kernel⟩ (by decide) (by decide) (Nat.le_of_ble_eq_true rfl) fc_8 (by decide) rfl e12 C14 (Nat.le_of_eq (Nat.add_zero _)) (Nat.le_of_eq (Nat.add_zero _)) (fun _ _ h => h) ?_
    rintro _ h15 ⟨r16, rfl, K1⟩ -
    replace K := K r16 h15 K1
    show Gm l x mX8_stepOn 1 155 [(0, .ref a0), (1, .int x1)] [.int r16, .int (10 * (hI h8 a0 15)), .int 100000, .ref a0] h15 rc rs n0 Q X
    refine g_iadd dX8_stepOn_155 ?_
    refine g_bipush (v := 48) dX8_stepOn_156 (by decide) ?_
    refine g_isub dX8_stepOn_158 ?_
    refine g_min dX8_stepOn_159 bw_1356 bw_765 bw_14 bw_766 (by decide) (Nat.le_of_ble_eq_true rfl) ?_
    obtain ⟨e17, K⟩ := K
    refine g_puti (c := 8) (k := 15) dX8_stepOn_162 fc_8 (by decide) (by decide) bw_1213 (Or.inl rfl) rfl e17 ?_
    refine g_aload_n dX8_stepOn_165 rfl 0 rfl ?_
    refine g_dup dX8_stepOn_166 rfl ?_
    refine g_get (c := 8) (k := 12) (v := .int (hI h15 a0 12)) dX8_stepOn_167 fc_8 (by decide) (by decide) bw_1210 (congrArg Value.int ((skI (by decide)).trans rfl)) (kkI e17) ?_
    refine g_iconst (v := 1) dX8_stepOn_170 (by decide) ?_
    refine g_iadd dX8_stepOn_171 ?_
    refine g_puti (c := 8) (k := 12) dX8_stepOn_172 fc_8 (by decide) (by decide) bw_1210 (Or.inl rfl) rfl (kkI e17) ?_
    refine g_goto (tgt := 123) dX8_stepOn_175 (by decide) ?_
    exact K
theorem dX8_numberNow_0 : decode cX8_numberNow 0 = .ok (.aload_n 0, 1) := by decide +kernel
theorem dX8_numberNow_1 : decode cX8_numberNow 1 = .ok (.getfield 146, 3) := by decide +kernel
theorem dX8_numberNow_4 : decode cX8_numberNow 4 = .ok (.ifCond .eq 5, 3) := by decide +kernel
theorem dX8_numberNow_7 : decode cX8_numberNow 7 = .ok (.iload_n 1, 1) := by decide +kernel
theorem dX8_numberNow_8 : decode cX8_numberNow 8 = .ok (.ireturn, 1) := by decide +kernel
theorem dX8_numberNow_9 : decode cX8_numberNow 9 = .ok (.aload_n 0, 1) := by decide +kernel
theorem dX8_numberNow_10 : decode cX8_numberNow 10 = .ok (.getfield 123, 3) := by decide +kernel
theorem dX8_numberNow_13 : decode cX8_numberNow 13 = .ok (.iconst 2, 1) := by decide +kernel
theorem dX8_numberNow_14 : decode cX8_numberNow 14 = .ok (.if_icmp .eq 11, 3) := by decide +kernel
theorem dX8_numberNow_17 : decode cX8_numberNow 17 = .ok (.aload_n 0, 1) := by decide +kernel
theorem dX8_numberNow_18 : decode cX8_numberNow 18 = .ok (.iconst 1, 1) := by decide +kernel
theorem dX8_numberNow_19 : decode cX8_numberNow 19 = .ok (.invokevirtual 164, 3) := by decide +kernel
theorem dX8_numberNow_22 : decode cX8_numberNow 22 = .ok (.goto 37, 3) := by decide +kernel
theorem dX8_numberNow_25 : decode cX8_numberNow 25 = .ok (.aload_n 0, 1) := by decide +kernel
theorem dX8_numberNow_26 : decode cX8_numberNow 26 = .ok (.getfield 143, 3) := by decide +kernel
theorem dX8_numberNow_29 : decode cX8_numberNow 29 = .ok (.aload_n 0, 1) := by decide +kernel
theorem dX8_numberNow_30 : decode cX8_numberNow 30 = .ok (.getfield 120, 3) := by decide +kernel
theorem dX8_numberNow_33 : decode cX8_numberNow 33 = .ok (.isub, 1) := by decide +kernel
theorem dX8_numberNow_34 : decode cX8_numberNow 34 = .ok (.iconst 2, 1) := by decide +kernel
theorem dX8_numberNow_35 : decode cX8_numberNow 35 = .ok (.if_icmp .gt 19, 3) := by decide +kernel
theorem dX8_numberNow_38 : decode cX8_numberNow 38 = .ok (.aload_n 0, 1) := by decide +kernel
theorem dX8_numberNow_39 : decode cX8_numberNow 39 = .ok (.getfield 133, 3) := by decide +kernel
theorem dX8_numberNow_42 : decode cX8_numberNow 42 = .ok (.iload_n 1, 1) := by decide +kernel
theorem dX8_numberNow_43 : decode cX8_numberNow 43 = .ok (.if_icmp .lt 11, 3) := by decide +kernel
theorem dX8_numberNow_46 : decode cX8_numberNow 46 = .ok (.aload_n 0, 1) := by decide +kernel
theorem dX8_numberNow_47 : decode cX8_numberNow 47 = .ok (.getfield 133, 3) := by decide +kernel
theorem dX8_numberNow_50 : decode cX8_numberNow 50 = .ok (.iload_n 2, 1) := by decide +kernel
theorem dX8_numberNow_51 : decode cX8_numberNow 51 = .ok (.if_icmp .le 8, 3) := by decide +kernel
theorem dX8_numberNow_54 : decode cX8_numberNow 54 = .ok (.aload_n 0, 1) := by decide +kernel
theorem dX8_numberNow_55 : decode cX8_numberNow 55 = .ok (.iconst 2, 1) := by decide +kernel
theorem dX8_numberNow_56 : decode cX8_numberNow 56 = .ok (.invokevirtual 164, 3) := by decide +kernel
theorem dX8_numberNow_59 : decode cX8_numberNow 59 = .ok (.aload_n 0, 1) := by decide +kernel
theorem dX8_numberNow_60 : decode cX8_numberNow 60 = .ok (.getfield 146, 3) := by decide +kernel
theorem dX8_numberNow_63 : decode cX8_numberNow 63 = .ok (.ifCond .ne 10, 3) := by decide +kernel
theorem dX8_numberNow_66 : decode cX8_numberNow 66 = .ok (.aload_n 0, 1) := by decide +kernel
theorem dX8_numberNow_67 : decode cX8_numberNow 67 = .ok (.getfield 133, 3) := by decide +kernel
theorem dX8_numberNow_70 : decode cX8_numberNow 70 = .ok (.goto 4, 3) := by decide +kernel
theorem dX8_numberNow_73 : decode cX8_numberNow 73 = .ok (.iload_n 1, 1) := by decide +kernel
theorem dX8_numberNow_74 : decode cX8_numberNow 74 = .ok (.ireturn, 1) := by decide +kernel
set_option maxRecDepth 20000 in
set_option maxHeartbeats 4000000 in
theorem vX8_numberNow_0 {l : Launch} {x : CX} {a0 : Nat} {x1 : Int32} {x2 : Int32} {h : PH} {rc rs n0 : Nat} {Q : Option Value → PH → Prop} {X : String → PH → Prop}
    (K : ((hK h a0).1 = 8) ∧ (((hI h a0 18) = 0 → (((hI h a0 14) = 2 → ((2 < ((hI h a0 17) - (hI h a0 16)) → ∃ (q5 : PH → Prop), CV l x mX8_wrong 0 0 0 [.ref a0, .int 2] h q5 ∧ ∀ (h7 : PH), q5 h7 → ((hK h7 a0).1 = 8) ∧ Q (some (.int (if (hI h7 a0 18) = 0 then (hI h7 a0 15) else x1 : Int32))) h7) ∧ (¬ 2 < ((hI h a0 17) - (hI h a0 16)) → (((hI h a0 15) < x1 → ∃ (q11 : PH → Prop), CV l x mX8_wrong 0 0 0 [.ref a0, .int 2] h q11 ∧ ∀ (h13 : PH), q11 h13 → ((hK h13 a0).1 = 8) ∧ Q (some (.int (if (hI h13 a0 18) = 0 then (hI h13 a0 15) else x1 : Int32))) h13) ∧ (¬ (hI h a0 15) < x1 → (((hI h a0 15) ≤ x2 → Q (some (.int (if (hI h a0 18) = 0 then (hI h a0 15) else x1 : Int32))) h) ∧ (¬ (hI h a0 15) ≤ x2 → ∃ (q18 : PH → Prop), CV l x mX8_wrong 0 0 0 [.ref a0, .int 2] h q18 ∧ ∀ (h20 : PH), q18 h20 → ((hK h20 a0).1 = 8) ∧ Q (some (.int (if (hI h20 a0 18) = 0 then (hI h20 a0 15) else x1 : Int32))) h20))))))) ∧ (¬ (hI h a0 14) = 2 → ∃ (q23 : PH → Prop), CV l x mX8_wrong 0 0 0 [.ref a0, .int 1] h q23 ∧ ∀ (h25 : PH), q23 h25 → ((hK h25 a0).1 = 8) ∧ Q (some (.int (if (hI h25 a0 18) = 0 then (hI h25 a0 15) else x1 : Int32))) h25))) ∧ (¬ (hI h a0 18) = 0 → Q (some (.int x1)) h))) :
    Gm l x mX8_numberNow 1 0 [(0, .ref a0), (1, .int x1), (2, .int x2)] [] h rc rs n0 Q X := by
  refine g_aload_n dX8_numberNow_0 rfl 0 rfl ?_
  obtain ⟨e1, K⟩ := K
  refine g_get (c := 8) (k := 18) (v := .int (hI h a0 18)) dX8_numberNow_1 fc_8 (by decide) (by decide) bw_1216 rfl e1 ?_
  refine g_if_eq (tgt := 9) dX8_numberNow_4 (by decide) (fun c2 => ?_) (fun c2 => ?_)
  · replace K := K.1 c2
    refine g_aload_n dX8_numberNow_9 rfl 0 rfl ?_
    refine g_get (c := 8) (k := 14) (v := .int (hI h a0 14)) dX8_numberNow_10 fc_8 (by decide) (by decide) bw_1212 rfl e1 ?_
    refine g_iconst (v := 2) dX8_numberNow_13 (by decide) ?_
    refine g_icmp_eq (tgt := 25) dX8_numberNow_14 (by decide) (fun c3 => ?_) (fun c3 => ?_)
    · replace K := K.1 c3
      refine g_aload_n dX8_numberNow_25 rfl 0 rfl ?_
      refine g_get (c := 8) (k := 17) (v := .int (hI h a0 17)) dX8_numberNow_26 fc_8 (by decide) (by decide) bw_1215 rfl e1 ?_
      refine g_aload_n dX8_numberNow_29 rfl 0 rfl ?_
      refine g_get (c := 8) (k := 16) (v := .int (hI h a0 16)) dX8_numberNow_30 fc_8 (by decide) (by decide) bw_1214 rfl e1 ?_
      refine g_isub dX8_numberNow_33 ?_
      refine g_iconst (v := 2) dX8_numberNow_34 (by decide) ?_
      refine g_icmp_gt (tgt := 54) dX8_numberNow_35 (by decide) (fun c4 => ?_) (fun c4 => ?_)
      · replace K := K.1 c4
        refine g_aload_n dX8_numberNow_54 rfl 0 rfl ?_
        refine g_iconst (v := 2) dX8_numberNow_55 (by decide) ?_
        obtain ⟨q5, C6, K⟩ := K
        refine g_callV (M' := mX8_wrong) (b := a0) (As := [.int 2]) (rest := []) (rc' := rc) (rs' := rs) dX8_numberNow_56 bw_1371 bw_1373 bs_45 bw_9 bw_1374 ⟨by decide +kernel, by decide +kernel, show (parseMethodDescriptor mX8_wrong.1.desc).map (fun d => d.parameters.length) = some 1 by decide +kernel⟩ (by decide) (by decide) (Nat.le_of_ble_eq_true rfl) fc_8 (by decide) rfl e1 C6 (Nat.le_of_eq (Nat.add_zero _)) (Nat.le_of_eq (Nat.add_zero _)) (fun _ _ h => h) ?_
        rintro _ h7 ⟨rfl, K1⟩ -
        replace K := K h7 K1
        show Gm l x mX8_numberNow 1 59 [(0, .ref a0), (1, .int x1), (2, .int x2)] [] h7 rc rs n0 Q X
        refine g_aload_n dX8_numberNow_59 rfl 0 rfl ?_
        obtain ⟨e8, K⟩ := K
        refine g_get (c := 8) (k := 18) (v := .int (hI h7 a0 18)) dX8_numberNow_60 fc_8 (by decide) (by decide) bw_1216 rfl e8 ?_
        have KJ : Gm l x mX8_numberNow 1 74 [(0, .ref a0), (1, .int x1), (2, .int x2)] [.int (if (hI h7 a0 18) = 0 then (hI h7 a0 15) else x1 : Int32)] h7 rc rs n0 Q X := by
          exact g_iret dX8_numberNow_74 rfl K
        refine g_if_ne (tgt := 73) dX8_numberNow_63 (by decide) (fun c9 => ?_) (fun c9 => ?_)
        · refine g_iload_n dX8_numberNow_73 rfl 1 rfl ?_
          first | (simp only [if_neg c9] at KJ; exact KJ) | (simp only [if_neg c9, ite_true, ite_false, eq_self] at KJ; exact KJ) | (simp only [if_neg c9] at KJ ⊢; exact KJ) | exact KJ
        · refine g_aload_n dX8_numberNow_66 rfl 0 rfl ?_
          refine g_get (c := 8) (k := 15) (v := .int (hI h7 a0 15)) dX8_numberNow_67 fc_8 (by decide) (by decide) bw_1213 rfl e8 ?_
          refine g_goto (tgt := 74) dX8_numberNow_70 (by decide) ?_
          first | (simp only [if_pos c9] at KJ; exact KJ) | (simp only [if_pos c9, ite_true, ite_false, eq_self] at KJ; exact KJ) | (simp only [if_pos c9] at KJ ⊢; exact KJ) | exact KJ
      · replace K := K.2 c4
        refine g_aload_n dX8_numberNow_38 rfl 0 rfl ?_
        refine g_get (c := 8) (k := 15) (v := .int (hI h a0 15)) dX8_numberNow_39 fc_8 (by decide) (by decide) bw_1213 rfl e1 ?_
        refine g_iload_n dX8_numberNow_42 rfl 1 rfl ?_
        refine g_icmp_lt (tgt := 54) dX8_numberNow_43 (by decide) (fun c10 => ?_) (fun c10 => ?_)
        · replace K := K.1 c10
          refine g_aload_n dX8_numberNow_54 rfl 0 rfl ?_
          refine g_iconst (v := 2) dX8_numberNow_55 (by decide) ?_
          obtain ⟨q11, C12, K⟩ := K
          refine g_callV (M' := mX8_wrong) (b := a0) (As := [.int 2]) (rest := []) (rc' := rc) (rs' := rs) dX8_numberNow_56 bw_1371 bw_1373 bs_45 bw_9 bw_1374 ⟨by decide +kernel, by decide +kernel, show (parseMethodDescriptor mX8_wrong.1.desc).map (fun d => d.parameters.length) = some 1 by decide +kernel⟩ (by decide) (by decide) (Nat.le_of_ble_eq_true rfl) fc_8 (by decide) rfl e1 C12 (Nat.le_of_eq (Nat.add_zero _)) (Nat.le_of_eq (Nat.add_zero _)) (fun _ _ h => h) ?_
          rintro _ h13 ⟨rfl, K1⟩ -
          replace K := K h13 K1
          show Gm l x mX8_numberNow 1 59 [(0, .ref a0), (1, .int x1), (2, .int x2)] [] h13 rc rs n0 Q X
          refine g_aload_n dX8_numberNow_59 rfl 0 rfl ?_
          obtain ⟨e14, K⟩ := K
          refine g_get (c := 8) (k := 18) (v := .int (hI h13 a0 18)) dX8_numberNow_60 fc_8 (by decide) (by decide) bw_1216 rfl e14 ?_
          have KJ : Gm l x mX8_numberNow 1 74 [(0, .ref a0), (1, .int x1), (2, .int x2)] [.int (if (hI h13 a0 18) = 0 then (hI h13 a0 15) else x1 : Int32)] h13 rc rs n0 Q X := by
            exact g_iret dX8_numberNow_74 rfl K
          refine g_if_ne (tgt := 73) dX8_numberNow_63 (by decide) (fun c15 => ?_) (fun c15 => ?_)
          · refine g_iload_n dX8_numberNow_73 rfl 1 rfl ?_
            first | (simp only [if_neg c15] at KJ; exact KJ) | (simp only [if_neg c15, ite_true, ite_false, eq_self] at KJ; exact KJ) | (simp only [if_neg c15] at KJ ⊢; exact KJ) | exact KJ
          · refine g_aload_n dX8_numberNow_66 rfl 0 rfl ?_
            refine g_get (c := 8) (k := 15) (v := .int (hI h13 a0 15)) dX8_numberNow_67 fc_8 (by decide) (by decide) bw_1213 rfl e14 ?_
            refine g_goto (tgt := 74) dX8_numberNow_70 (by decide) ?_
            first | (simp only [if_pos c15] at KJ; exact KJ) | (simp only [if_pos c15, ite_true, ite_false, eq_self] at KJ; exact KJ) | (simp only [if_pos c15] at KJ ⊢; exact KJ) | exact KJ
        · replace K := K.2 c10
          refine g_aload_n dX8_numberNow_46 rfl 0 rfl ?_
          refine g_get (c := 8) (k := 15) (v := .int (hI h a0 15)) dX8_numberNow_47 fc_8 (by decide) (by decide) bw_1213 rfl e1 ?_
          refine g_iload_n dX8_numberNow_50 rfl 2 rfl ?_
          refine g_icmp_le (tgt := 59) dX8_numberNow_51 (by decide) (fun c16 => ?_) (fun c16 => ?_)
          · replace K := K.1 c16
            refine g_aload_n dX8_numberNow_59 rfl 0 rfl ?_
            refine g_get (c := 8) (k := 18) (v := .int (hI h a0 18)) dX8_numberNow_60 fc_8 (by decide) (by decide) bw_1216 rfl e1 ?_
            have KJ : Gm l x mX8_numberNow 1 74 [(0, .ref a0), (1, .int x1), (2, .int x2)] [.int (if (hI h a0 18) = 0 then (hI h a0 15) else x1 : Int32)] h rc rs n0 Q X := by
              exact g_iret dX8_numberNow_74 rfl K
            refine g_if_ne (tgt := 73) dX8_numberNow_63 (by decide) (fun c17 => ?_) (fun c17 => ?_)
            · refine g_iload_n dX8_numberNow_73 rfl 1 rfl ?_
              first | (simp only [if_neg c17] at KJ; exact KJ) | (simp only [if_neg c17, ite_true, ite_false, eq_self] at KJ; exact KJ) | (simp only [if_neg c17] at KJ ⊢; exact KJ) | exact KJ
            · refine g_aload_n dX8_numberNow_66 rfl 0 rfl ?_
              refine g_get (c := 8) (k := 15) (v := .int (hI h a0 15)) dX8_numberNow_67 fc_8 (by decide) (by decide) bw_1213 rfl e1 ?_
              refine g_goto (tgt := 74) dX8_numberNow_70 (by decide) ?_
              first | (simp only [if_pos c17] at KJ; exact KJ) | (simp only [if_pos c17, ite_true, ite_false, eq_self] at KJ; exact KJ) | (simp only [if_pos c17] at KJ ⊢; exact KJ) | exact KJ
          · replace K := K.2 c16
            refine g_aload_n dX8_numberNow_54 rfl 0 rfl ?_
            refine g_iconst (v := 2) dX8_numberNow_55 (by decide) ?_
            obtain ⟨q18, C19, K⟩ := K
            refine g_callV (M' := mX8_wrong) (b := a0) (As := [.int 2]) (rest := []) (rc' := rc) (rs' := rs) dX8_numberNow_56 bw_1371 bw_1373 bs_45 bw_9 bw_1374 ⟨by decide +kernel, by decide +kernel, show (parseMethodDescriptor mX8_wrong.1.desc).map (fun d => d.parameters.length) = some 1 by decide +kernel⟩ (by decide) (by decide) (Nat.le_of_ble_eq_true rfl) fc_8 (by decide) rfl e1 C19 (Nat.le_of_eq (Nat.add_zero _)) (Nat.le_of_eq (Nat.add_zero _)) (fun _ _ h => h) ?_
            rintro _ h20 ⟨rfl, K1⟩ -
            replace K := K h20 K1
            show Gm l x mX8_numberNow 1 59 [(0, .ref a0), (1, .int x1), (2, .int x2)] [] h20 rc rs n0 Q X
            refine g_aload_n dX8_numberNow_59 rfl 0 rfl ?_
            obtain ⟨e21, K⟩ := K
            refine g_get (c := 8) (k := 18) (v := .int (hI h20 a0 18)) dX8_numberNow_60 fc_8 (by decide) (by decide) bw_1216 rfl e21 ?_
            have KJ : Gm l x mX8_numberNow 1 74 [(0, .ref a0), (1, .int x1), (2, .int x2)] [.int (if (hI h20 a0 18) = 0 then (hI h20 a0 15) else x1 : Int32)] h20 rc rs n0 Q X := by
              exact g_iret dX8_numberNow_74 rfl K
            refine g_if_ne (tgt := 73) dX8_numberNow_63 (by decide) (fun c22 => ?_) (fun c22 => ?_)
            · refine g_iload_n dX8_numberNow_73 rfl 1 rfl ?_
              first | (simp only [if_neg c22] at KJ; exact KJ) | (simp only [if_neg c22, ite_true, ite_false, eq_self] at KJ; exact KJ) | (simp only [if_neg c22] at KJ ⊢; exact KJ) | exact KJ
            · refine g_aload_n dX8_numberNow_66 rfl 0 rfl ?_
              refine g_get (c := 8) (k := 15) (v := .int (hI h20 a0 15)) dX8_numberNow_67 fc_8 (by decide) (by decide) bw_1213 rfl e21 ?_
              refine g_goto (tgt := 74) dX8_numberNow_70 (by decide) ?_
              first | (simp only [if_pos c22] at KJ; exact KJ) | (simp only [if_pos c22, ite_true, ite_false, eq_self] at KJ; exact KJ) | (simp only [if_pos c22] at KJ ⊢; exact KJ) | exact KJ
    · replace K := K.2 c3
      refine g_aload_n dX8_numberNow_17 rfl 0 rfl ?_
      refine g_iconst (v := 1) dX8_numberNow_18 (by decide) ?_
      obtain ⟨q23, C24, K⟩ := K
      refine g_callV (M' := mX8_wrong) (b := a0) (As := [.int 1]) (rest := []) (rc' := rc) (rs' := rs) dX8_numberNow_19 bw_1371 bw_1373 bs_45 bw_9 bw_1374 ⟨by decide +kernel, by decide +kernel, show (parseMethodDescriptor mX8_wrong.1.desc).map (fun d => d.parameters.length) = some 1 by decide +kernel⟩ (by decide) (by decide) (Nat.le_of_ble_eq_true rfl) fc_8 (by decide) rfl e1 C24 (Nat.le_of_eq (Nat.add_zero _)) (Nat.le_of_eq (Nat.add_zero _)) (fun _ _ h => h) ?_
      rintro _ h25 ⟨rfl, K1⟩ -
      replace K := K h25 K1
      show Gm l x mX8_numberNow 1 22 [(0, .ref a0), (1, .int x1), (2, .int x2)] [] h25 rc rs n0 Q X
      refine g_goto (tgt := 59) dX8_numberNow_22 (by decide) ?_
      refine g_aload_n dX8_numberNow_59 rfl 0 rfl ?_
      obtain ⟨e26, K⟩ := K
      refine g_get (c := 8) (k := 18) (v := .int (hI h25 a0 18)) dX8_numberNow_60 fc_8 (by decide) (by decide) bw_1216 rfl e26 ?_
      have KJ : Gm l x mX8_numberNow 1 74 [(0, .ref a0), (1, .int x1), (2, .int x2)] [.int (if (hI h25 a0 18) = 0 then (hI h25 a0 15) else x1 : Int32)] h25 rc rs n0 Q X := by
        exact g_iret dX8_numberNow_74 rfl K
      refine g_if_ne (tgt := 73) dX8_numberNow_63 (by decide) (fun c27 => ?_) (fun c27 => ?_)
      · refine g_iload_n dX8_numberNow_73 rfl 1 rfl ?_
        first | (simp only [if_neg c27] at KJ; exact KJ) | (simp only [if_neg c27, ite_true, ite_false, eq_self] at KJ; exact KJ) | (simp only [if_neg c27] at KJ ⊢; exact KJ) | exact KJ
      · refine g_aload_n dX8_numberNow_66 rfl 0 rfl ?_
        refine g_get (c := 8) (k := 15) (v := .int (hI h25 a0 15)) dX8_numberNow_67 fc_8 (by decide) (by decide) bw_1213 rfl e26 ?_
        refine g_goto (tgt := 74) dX8_numberNow_70 (by decide) ?_
        first | (simp only [if_pos c27] at KJ; exact KJ) | (simp only [if_pos c27, ite_true, ite_false, eq_self] at KJ; exact KJ) | (simp only [if_pos c27] at KJ ⊢; exact KJ) | exact KJ
  · replace K := K.2 c2
    refine g_iload_n dX8_numberNow_7 rfl 1 rfl ?_
    exact g_iret dX8_numberNow_8 rfl K
theorem dX8_begin_0 : decode cX8_begin 0 = .ok (.iconst 0, 1) := by decide +kernel
theorem dX8_begin_1 : decode cX8_begin 1 = .ok (.istore_n 1, 1) := by decide +kernel
theorem dX8_begin_2 : decode cX8_begin 2 = .ok (.iload_n 1, 1) := by decide +kernel
theorem dX8_begin_3 : decode cX8_begin 3 = .ok (.sipush 312, 3) := by decide +kernel
theorem dX8_begin_6 : decode cX8_begin 6 = .ok (.if_icmp .ge 16, 3) := by decide +kernel
theorem dX8_begin_9 : decode cX8_begin 9 = .ok (.aload_n 0, 1) := by decide +kernel
theorem dX8_begin_10 : decode cX8_begin 10 = .ok (.getfield 29, 3) := by decide +kernel
theorem dX8_begin_13 : decode cX8_begin 13 = .ok (.iload_n 1, 1) := by decide +kernel
theorem dX8_begin_14 : decode cX8_begin 14 = .ok (.iconst 0, 1) := by decide +kernel
theorem dX8_begin_15 : decode cX8_begin 15 = .ok (.iastore, 1) := by decide +kernel
theorem dX8_begin_16 : decode cX8_begin 16 = .ok (.iinc 1 1, 3) := by decide +kernel
theorem dX8_begin_19 : decode cX8_begin 19 = .ok (.goto (-17), 3) := by decide +kernel
theorem dX8_begin_22 : decode cX8_begin 22 = .ok (.aload_n 0, 1) := by decide +kernel
theorem dX8_begin_23 : decode cX8_begin 23 = .ok (.getfield 29, 3) := by decide +kernel
theorem dX8_begin_26 : decode cX8_begin 26 = .ok (.iconst 2, 1) := by decide +kernel
theorem dX8_begin_27 : decode cX8_begin 27 = .ok (.aload_n 0, 1) := by decide +kernel
theorem dX8_begin_28 : decode cX8_begin 28 = .ok (.iconst 5, 1) := by decide +kernel
theorem dX8_begin_29 : decode cX8_begin 29 = .ok (.invokevirtual 218, 3) := by decide +kernel
theorem dX8_begin_32 : decode cX8_begin 32 = .ok (.iastore, 1) := by decide +kernel
theorem dX8_begin_33 : decode cX8_begin 33 = .ok (.aload_n 0, 1) := by decide +kernel
theorem dX8_begin_34 : decode cX8_begin 34 = .ok (.getfield 29, 3) := by decide +kernel
theorem dX8_begin_37 : decode cX8_begin 37 = .ok (.iconst 3, 1) := by decide +kernel
theorem dX8_begin_38 : decode cX8_begin 38 = .ok (.aload_n 0, 1) := by decide +kernel
theorem dX8_begin_39 : decode cX8_begin 39 = .ok (.iconst 4, 1) := by decide +kernel
theorem dX8_begin_40 : decode cX8_begin 40 = .ok (.invokevirtual 218, 3) := by decide +kernel
theorem dX8_begin_43 : decode cX8_begin 43 = .ok (.iastore, 1) := by decide +kernel
theorem dX8_begin_44 : decode cX8_begin 44 = .ok (.aload_n 0, 1) := by decide +kernel
theorem dX8_begin_45 : decode cX8_begin 45 = .ok (.getfield 29, 3) := by decide +kernel
theorem dX8_begin_48 : decode cX8_begin 48 = .ok (.iconst 4, 1) := by decide +kernel
theorem dX8_begin_49 : decode cX8_begin 49 = .ok (.iconst (-1), 1) := by decide +kernel
theorem dX8_begin_50 : decode cX8_begin 50 = .ok (.iastore, 1) := by decide +kernel
theorem dX8_begin_51 : decode cX8_begin 51 = .ok (.aload_n 0, 1) := by decide +kernel
theorem dX8_begin_52 : decode cX8_begin 52 = .ok (.getfield 29, 3) := by decide +kernel
theorem dX8_begin_55 : decode cX8_begin 55 = .ok (.bipush 6, 2) := by decide +kernel
theorem dX8_begin_57 : decode cX8_begin 57 = .ok (.aload_n 0, 1) := by decide +kernel
theorem dX8_begin_58 : decode cX8_begin 58 = .ok (.getfield 36, 3) := by decide +kernel
theorem dX8_begin_61 : decode cX8_begin 61 = .ok (.iconst 2, 1) := by decide +kernel
theorem dX8_begin_62 : decode cX8_begin 62 = .ok (.iaload, 1) := by decide +kernel
theorem dX8_begin_63 : decode cX8_begin 63 = .ok (.iastore, 1) := by decide +kernel
theorem dX8_begin_64 : decode cX8_begin 64 = .ok (.iconst 0, 1) := by decide +kernel
theorem dX8_begin_65 : decode cX8_begin 65 = .ok (.istore_n 1, 1) := by decide +kernel
theorem dX8_begin_66 : decode cX8_begin 66 = .ok (.iload_n 1, 1) := by decide +kernel
theorem dX8_begin_67 : decode cX8_begin 67 = .ok (.aload_n 0, 1) := by decide +kernel
theorem dX8_begin_68 : decode cX8_begin 68 = .ok (.getfield 36, 3) := by decide +kernel
theorem dX8_begin_71 : decode cX8_begin 71 = .ok (.iconst 1, 1) := by decide +kernel
theorem dX8_begin_72 : decode cX8_begin 72 = .ok (.iaload, 1) := by decide +kernel
theorem dX8_begin_73 : decode cX8_begin 73 = .ok (.if_icmp .ge 62, 3) := by decide +kernel
theorem dX8_begin_76 : decode cX8_begin 76 = .ok (.aload_n 0, 1) := by decide +kernel
theorem dX8_begin_77 : decode cX8_begin 77 = .ok (.iload_n 1, 1) := by decide +kernel
theorem dX8_begin_78 : decode cX8_begin 78 = .ok (.iconst 0, 1) := by decide +kernel
theorem dX8_begin_79 : decode cX8_begin 79 = .ok (.aload_n 0, 1) := by decide +kernel
theorem dX8_begin_80 : decode cX8_begin 80 = .ok (.getfield 42, 3) := by decide +kernel
theorem dX8_begin_83 : decode cX8_begin 83 = .ok (.iconst 3, 1) := by decide +kernel
theorem dX8_begin_84 : decode cX8_begin 84 = .ok (.iload_n 1, 1) := by decide +kernel
theorem dX8_begin_85 : decode cX8_begin 85 = .ok (.imul, 1) := by decide +kernel
theorem dX8_begin_86 : decode cX8_begin 86 = .ok (.iaload, 1) := by decide +kernel
theorem dX8_begin_87 : decode cX8_begin 87 = .ok (.invokevirtual 221, 3) := by decide +kernel
theorem dX8_begin_90 : decode cX8_begin 90 = .ok (.aload_n 0, 1) := by decide +kernel
theorem dX8_begin_91 : decode cX8_begin 91 = .ok (.iload_n 1, 1) := by decide +kernel
theorem dX8_begin_92 : decode cX8_begin 92 = .ok (.bipush 6, 2) := by decide +kernel
theorem dX8_begin_94 : decode cX8_begin 94 = .ok (.aload_n 0, 1) := by decide +kernel
theorem dX8_begin_95 : decode cX8_begin 95 = .ok (.getfield 42, 3) := by decide +kernel
theorem dX8_begin_98 : decode cX8_begin 98 = .ok (.iconst 3, 1) := by decide +kernel
theorem dX8_begin_99 : decode cX8_begin 99 = .ok (.iload_n 1, 1) := by decide +kernel
theorem dX8_begin_100 : decode cX8_begin 100 = .ok (.imul, 1) := by decide +kernel
theorem dX8_begin_101 : decode cX8_begin 101 = .ok (.iaload, 1) := by decide +kernel
theorem dX8_begin_102 : decode cX8_begin 102 = .ok (.invokevirtual 221, 3) := by decide +kernel
theorem dX8_begin_105 : decode cX8_begin 105 = .ok (.aload_n 0, 1) := by decide +kernel
theorem dX8_begin_106 : decode cX8_begin 106 = .ok (.iload_n 1, 1) := by decide +kernel
theorem dX8_begin_107 : decode cX8_begin 107 = .ok (.bipush 7, 2) := by decide +kernel
theorem dX8_begin_109 : decode cX8_begin 109 = .ok (.aload_n 0, 1) := by decide +kernel
theorem dX8_begin_110 : decode cX8_begin 110 = .ok (.getfield 42, 3) := by decide +kernel
theorem dX8_begin_113 : decode cX8_begin 113 = .ok (.iconst 3, 1) := by decide +kernel
theorem dX8_begin_114 : decode cX8_begin 114 = .ok (.iload_n 1, 1) := by decide +kernel
theorem dX8_begin_115 : decode cX8_begin 115 = .ok (.imul, 1) := by decide +kernel
theorem dX8_begin_116 : decode cX8_begin 116 = .ok (.iconst 1, 1) := by decide +kernel
theorem dX8_begin_117 : decode cX8_begin 117 = .ok (.iadd, 1) := by decide +kernel
theorem dX8_begin_118 : decode cX8_begin 118 = .ok (.iaload, 1) := by decide +kernel
theorem dX8_begin_119 : decode cX8_begin 119 = .ok (.invokevirtual 221, 3) := by decide +kernel
theorem dX8_begin_122 : decode cX8_begin 122 = .ok (.aload_n 0, 1) := by decide +kernel
theorem dX8_begin_123 : decode cX8_begin 123 = .ok (.iload_n 1, 1) := by decide +kernel
theorem dX8_begin_124 : decode cX8_begin 124 = .ok (.iconst 4, 1) := by decide +kernel
theorem dX8_begin_125 : decode cX8_begin 125 = .ok (.iconst 1, 1) := by decide +kernel
theorem dX8_begin_126 : decode cX8_begin 126 = .ok (.invokevirtual 221, 3) := by decide +kernel
theorem dX8_begin_129 : decode cX8_begin 129 = .ok (.iinc 1 1, 3) := by decide +kernel
theorem dX8_begin_132 : decode cX8_begin 132 = .ok (.goto (-66), 3) := by decide +kernel
theorem dX8_begin_135 : decode cX8_begin 135 = .ok (.iconst 0, 1) := by decide +kernel
theorem dX8_begin_136 : decode cX8_begin 136 = .ok (.istore_n 1, 1) := by decide +kernel
theorem dX8_begin_137 : decode cX8_begin 137 = .ok (.iload_n 1, 1) := by decide +kernel
theorem dX8_begin_138 : decode cX8_begin 138 = .ok (.aload_n 0, 1) := by decide +kernel
theorem dX8_begin_139 : decode cX8_begin 139 = .ok (.getfield 36, 3) := by decide +kernel
theorem dX8_begin_142 : decode cX8_begin 142 = .ok (.iconst 2, 1) := by decide +kernel
theorem dX8_begin_143 : decode cX8_begin 143 = .ok (.iaload, 1) := by decide +kernel
theorem dX8_begin_144 : decode cX8_begin 144 = .ok (.if_icmp .ge 61, 3) := by decide +kernel
theorem dX8_begin_147 : decode cX8_begin 147 = .ok (.iconst 0, 1) := by decide +kernel
theorem dX8_begin_148 : decode cX8_begin 148 = .ok (.istore_n 2, 1) := by decide +kernel
theorem dX8_begin_149 : decode cX8_begin 149 = .ok (.iload_n 2, 1) := by decide +kernel
theorem dX8_begin_150 : decode cX8_begin 150 = .ok (.iconst 4, 1) := by decide +kernel
theorem dX8_begin_151 : decode cX8_begin 151 = .ok (.if_icmp .ge 25, 3) := by decide +kernel
theorem dX8_begin_154 : decode cX8_begin 154 = .ok (.aload_n 0, 1) := by decide +kernel
theorem dX8_begin_155 : decode cX8_begin 155 = .ok (.iload_n 1, 1) := by decide +kernel
theorem dX8_begin_156 : decode cX8_begin 156 = .ok (.iload_n 2, 1) := by decide +kernel
theorem dX8_begin_157 : decode cX8_begin 157 = .ok (.aload_n 0, 1) := by decide +kernel
theorem dX8_begin_158 : decode cX8_begin 158 = .ok (.getfield 48, 3) := by decide +kernel
theorem dX8_begin_161 : decode cX8_begin 161 = .ok (.iconst 4, 1) := by decide +kernel
theorem dX8_begin_162 : decode cX8_begin 162 = .ok (.iload_n 1, 1) := by decide +kernel
theorem dX8_begin_163 : decode cX8_begin 163 = .ok (.imul, 1) := by decide +kernel
theorem dX8_begin_164 : decode cX8_begin 164 = .ok (.iload_n 2, 1) := by decide +kernel
theorem dX8_begin_165 : decode cX8_begin 165 = .ok (.iadd, 1) := by decide +kernel
theorem dX8_begin_166 : decode cX8_begin 166 = .ok (.iaload, 1) := by decide +kernel
theorem dX8_begin_167 : decode cX8_begin 167 = .ok (.invokevirtual 225, 3) := by decide +kernel
theorem dX8_begin_170 : decode cX8_begin 170 = .ok (.iinc 2 1, 3) := by decide +kernel
theorem dX8_begin_173 : decode cX8_begin 173 = .ok (.goto (-24), 3) := by decide +kernel
theorem dX8_begin_176 : decode cX8_begin 176 = .ok (.aload_n 0, 1) := by decide +kernel
theorem dX8_begin_177 : decode cX8_begin 177 = .ok (.iload_n 1, 1) := by decide +kernel
theorem dX8_begin_178 : decode cX8_begin 178 = .ok (.iconst 5, 1) := by decide +kernel
theorem dX8_begin_179 : decode cX8_begin 179 = .ok (.iconst (-1), 1) := by decide +kernel
theorem dX8_begin_180 : decode cX8_begin 180 = .ok (.invokevirtual 225, 3) := by decide +kernel
theorem dX8_begin_183 : decode cX8_begin 183 = .ok (.aload_n 0, 1) := by decide +kernel
theorem dX8_begin_184 : decode cX8_begin 184 = .ok (.iload_n 1, 1) := by decide +kernel
theorem dX8_begin_185 : decode cX8_begin 185 = .ok (.bipush 7, 2) := by decide +kernel
theorem dX8_begin_187 : decode cX8_begin 187 = .ok (.iconst (-1), 1) := by decide +kernel
theorem dX8_begin_188 : decode cX8_begin 188 = .ok (.invokevirtual 225, 3) := by decide +kernel
theorem dX8_begin_191 : decode cX8_begin 191 = .ok (.aload_n 0, 1) := by decide +kernel
theorem dX8_begin_192 : decode cX8_begin 192 = .ok (.iload_n 1, 1) := by decide +kernel
theorem dX8_begin_193 : decode cX8_begin 193 = .ok (.bipush 8, 2) := by decide +kernel
theorem dX8_begin_195 : decode cX8_begin 195 = .ok (.iconst (-1), 1) := by decide +kernel
theorem dX8_begin_196 : decode cX8_begin 196 = .ok (.invokevirtual 225, 3) := by decide +kernel
theorem dX8_begin_199 : decode cX8_begin 199 = .ok (.iinc 1 1, 3) := by decide +kernel
theorem dX8_begin_202 : decode cX8_begin 202 = .ok (.goto (-65), 3) := by decide +kernel
theorem dX8_begin_205 : decode cX8_begin 205 = .ok (.return_, 1) := by decide +kernel
set_option maxRecDepth 20000 in
set_option maxHeartbeats 4000000 in
theorem vX8_begin_0 {l : Launch} {x : CX} {a0 : Nat} {h : PH} {rc rs n0 : Nat} {Q : Option Value → PH → Prop} {X : String → PH → Prop}
    (K : Gm l x mX8_begin 1 2 [(0, .ref a0), (1, .int 0)] [] h rc rs n0 Q X) :
    Gm l x mX8_begin 1 0 [(0, .ref a0)] [] h rc rs n0 Q X := by
  refine g_iconst (v := 0) dX8_begin_0 (by decide) ?_
  refine g_istore_n (lv' := [(0, .ref a0), (1, .int 0)]) dX8_begin_1 rfl (by decide) rfl ?_
  exact K
set_option maxRecDepth 20000 in
set_option maxHeartbeats 4000000 in
theorem vX8_begin_2 {l : Launch} {x : CX} {a0 : Nat} {x1 : Int32} {h : PH} {rc rs n0 : Nat} {Q : Option Value → PH → Prop} {X : String → PH → Prop}
    (K : ((312 ≤ x1 → ((hK h a0).1 = 8) ∧ ∃ b3, (hR h a0 2 = some b3) ∧ ∃ (q5 : Int32 → PH → Prop), CI l x mX8_tells 0 0 0 [.ref a0, .int 5] h q5 ∧ ∀ (r8 : Int32) (h7 : PH), q5 r8 h7 → ((hK h7 b3).1 = 100) ∧ (vp_in 2 (hK h7 b3).2) ∧ ((hK h7 a0).1 = 8) ∧ ∃ b12, (hR h7 a0 2 = some b12) ∧ ∃ (q14 : Int32 → PH → Prop), CI l x mX8_tells 0 0 0 [.ref a0, .int 4] (sI h7 b3 (Int32.toNatClampNeg 2) r8) q14 ∧ ∀ (r17 : Int32) (h16 : PH), q14 r17 h16 → ((hK h16 b12).1 = 100) ∧ (vp_in 3 (hK h16 b12).2) ∧ ((hK h16 a0).1 = 8) ∧ ∃ b21, (hR h16 a0 2 = some b21) ∧ ((hK h16 b21).1 = 100) ∧ (vp_in 4 (hK h16 b21).2) ∧ ∃ b25, (hR h16 a0 4 = some b25) ∧ ((hK h16 b25).1 = 100) ∧ (vp_in 2 (hK h16 b25).2) ∧ (vp_in 6 (hK h16 b21).2) ∧ Gm l x mX8_begin 1 66 [(0, .ref a0), (1, .int 0)] [] (sI (sI (sI h16 b12 (Int32.toNatClampNeg 3) r17) b21 (Int32.toNatClampNeg 4) (-1)) b21 (Int32.toNatClampNeg 6) (hI (sI (sI h16 b12 (Int32.toNatClampNeg 3) r17) b21 (Int32.toNatClampNeg 4) (-1)) b25 (Int32.toNatClampNeg 2))) rc rs n0 Q X) ∧ (¬ 312 ≤ x1 → ((hK h a0).1 = 8) ∧ ∃ b31, (hR h a0 2 = some b31) ∧ ((hK h b31).1 = 100) ∧ (vp_in x1 (hK h b31).2) ∧ Gm l x mX8_begin 1 2 [(0, .ref a0), (1, .int (x1 + 1))] [] (sI h b31 x1.toNatClampNeg 0) rc rs n0 Q X))) :
    Gm l x mX8_begin 1 2 [(0, .ref a0), (1, .int x1)] [] h rc rs n0 Q X := by
  refine g_iload_n dX8_begin_2 rfl 1 rfl ?_
  refine g_sipush (v := 312) dX8_begin_3 (by decide) ?_
  refine g_icmp_ge (tgt := 22) dX8_begin_6 (by decide) (fun c1 => ?_) (fun c1 => ?_)
  · replace K := K.1 c1
    refine g_aload_n dX8_begin_22 rfl 0 rfl ?_
    obtain ⟨e2, b3, e4, K⟩ := K
    refine g_get (c := 8) (k := 2) (v := .ref b3) dX8_begin_23 fc_8 (by decide) (by decide) bw_1200 (congrArg pr e4) e2 ?_
    refine g_iconst (v := 2) dX8_begin_26 (by decide) ?_
    refine g_aload_n dX8_begin_27 rfl 0 rfl ?_
    refine g_iconst (v := 5) dX8_begin_28 (by decide) ?_
    obtain ⟨q5, C6, K⟩ := K
    refine g_callV (M' := mX8_tells) (b := a0) (As := [.int 5]) (rest := [.int 2, .ref b3]) (rc' := rc) (rs' := rs) dX8_begin_29 bw_1186 bw_1188 bs_36 bw_9 bw_1189 ⟨by decide +kernel, by decide +kernel, show (parseMethodDescriptor mX8_tells.1.desc).map (fun d => d.parameters.length) = some 1 by decide +kernel⟩ (by decide) (by decide) (Nat.le_of_ble_eq_true rfl) fc_8 (by decide) rfl e2 C6 (Nat.le_of_eq (Nat.add_zero _)) (Nat.le_of_eq (Nat.add_zero _)) (fun _ _ h => h) ?_
    rintro _ h7 ⟨r8, rfl, K1⟩ -
    replace K := K r8 h7 K1
    show Gm l x mX8_begin 1 32 [(0, .ref a0), (1, .int x1)] [.int r8, .int 2, .ref b3] h7 rc rs n0 Q X
    obtain ⟨e9, e10, K⟩ := K
    refine g_iast dX8_begin_32 e9 e10 ?_
    refine g_aload_n dX8_begin_33 rfl 0 rfl ?_
    obtain ⟨e11, b12, e13, K⟩ := K
    refine g_get (c := 8) (k := 2) (v := .ref b12) dX8_begin_34 fc_8 (by decide) (by decide) bw_1200 (congrArg pr (krI e13)) (kkI e11) ?_
    refine g_iconst (v := 3) dX8_begin_37 (by decide) ?_
    refine g_aload_n dX8_begin_38 rfl 0 rfl ?_
    refine g_iconst (v := 4) dX8_begin_39 (by decide) ?_
    obtain ⟨q14, C15, K⟩ := K
    refine g_callV (M' := mX8_tells) (b := a0) (As := [.int 4]) (rest := [.int 3, .ref b12]) (rc' := rc) (rs' := rs) dX8_begin_40 bw_1186 bw_1188 bs_36 bw_9 bw_1189 ⟨by decide +kernel, by decide +kernel, show (parseMethodDescriptor mX8_tells.1.desc).map (fun d => d.parameters.length) = some 1 by decide +kernel⟩ (by decide) (by decide) (Nat.le_of_ble_eq_true rfl) fc_8 (by decide) rfl (kkI e11) C15 (Nat.le_of_eq (Nat.add_zero _)) (Nat.le_of_eq (Nat.add_zero _)) (fun _ _ h => h) ?_
    rintro _ h16 ⟨r17, rfl, K1⟩ -
    replace K := K r17 h16 K1
    show Gm l x mX8_begin 1 43 [(0, .ref a0), (1, .int x1)] [.int r17, .int 3, .ref b12] h16 rc rs n0 Q X
    obtain ⟨e18, e19, K⟩ := K
    refine g_iast dX8_begin_43 e18 e19 ?_
    refine g_aload_n dX8_begin_44 rfl 0 rfl ?_
    obtain ⟨e20, b21, e22, K⟩ := K
    refine g_get (c := 8) (k := 2) (v := .ref b21) dX8_begin_45 fc_8 (by decide) (by decide) bw_1200 (congrArg pr (krI e22)) (kkI e20) ?_
    refine g_iconst (v := 4) dX8_begin_48 (by decide) ?_
    refine g_iconst (v := (-1)) dX8_begin_49 (by decide) ?_
    obtain ⟨e23, e24, K⟩ := K
    refine g_iast dX8_begin_50 (kkI e23) (kvI e24) ?_
    refine g_aload_n dX8_begin_51 rfl 0 rfl ?_
    refine g_get (c := 8) (k := 2) (v := .ref b21) dX8_begin_52 fc_8 (by decide) (by decide) bw_1200 (congrArg pr (krI (krI e22))) (kkI (kkI e20)) ?_
    refine g_bipush (v := 6) dX8_begin_55 (by decide) ?_
    refine g_aload_n dX8_begin_57 rfl 0 rfl ?_
    obtain ⟨b25, e26, K⟩ := K
    refine g_get (c := 8) (k := 4) (v := .ref b25) dX8_begin_58 fc_8 (by decide) (by decide) bw_1202 (congrArg pr (krI (krI e26))) (kkI (kkI e20)) ?_
    refine g_iconst (v := 2) dX8_begin_61 (by decide) ?_
    obtain ⟨e27, e28, K⟩ := K
    refine g_iald dX8_begin_62 (kkI (kkI e27)) (kvI (kvI e28)) ?_
    obtain ⟨e29, K⟩ := K
    refine g_iast dX8_begin_63 (kkI (kkI e23)) (kvI (kvI e29)) ?_
    refine g_iconst (v := 0) dX8_begin_64 (by decide) ?_
    refine g_istore_n (lv' := [(0, .ref a0), (1, .int 0)]) dX8_begin_65 rfl (by decide) rfl ?_
    exact K
  · replace K := K.2 c1
    refine g_aload_n dX8_begin_9 rfl 0 rfl ?_
    obtain ⟨e30, b31, e32, K⟩ := K
    refine g_get (c := 8) (k := 2) (v := .ref b31) dX8_begin_10 fc_8 (by decide) (by decide) bw_1200 (congrArg pr e32) e30 ?_
    refine g_iload_n dX8_begin_13 rfl 1 rfl ?_
    refine g_iconst (v := 0) dX8_begin_14 (by decide) ?_
    obtain ⟨e33, e34, K⟩ := K
    refine g_iast dX8_begin_15 e33 e34 ?_
    refine g_iinc (v := (x1 + 1)) (lv' := [(0, .ref a0), (1, .int (x1 + 1))]) dX8_begin_16 1 rfl (by rfl) (by decide) rfl ?_
    refine g_goto (tgt := 2) dX8_begin_19 (by decide) ?_
    exact K
set_option maxRecDepth 20000 in
set_option maxHeartbeats 4000000 in
theorem vX8_begin_66 {l : Launch} {x : CX} {a0 : Nat} {x1 : Int32} {h : PH} {rc rs n0 : Nat} {Q : Option Value → PH → Prop} {X : String → PH → Prop}
    (K : ((hK h a0).1 = 8) ∧ ∃ b2, (hR h a0 4 = some b2) ∧ ((hK h b2).1 = 100) ∧ (vp_in 1 (hK h b2).2) ∧ (((hI h b2 (Int32.toNatClampNeg 1)) ≤ x1 → Gm l x mX8_begin 1 137 [(0, .ref a0), (1, .int 0)] [] h rc rs n0 Q X) ∧ (¬ (hI h b2 (Int32.toNatClampNeg 1)) ≤ x1 → ∃ b7, (hR h a0 6 = some b7) ∧ ((hK h b7).1 = 100) ∧ (vp_in (3 * x1) (hK h b7).2) ∧ ∃ (q11 : PH → Prop), CV l x mX8_putCar 0 0 0 [.ref a0, .int x1, .int 0, .int (hI h b7 (3 * x1).toNatClampNeg)] h q11 ∧ ∀ (h13 : PH), q11 h13 → ((hK h13 a0).1 = 8) ∧ ∃ b15, (hR h13 a0 6 = some b15) ∧ ((hK h13 b15).1 = 100) ∧ (vp_in (3 * x1) (hK h13 b15).2) ∧ ∃ (q19 : PH → Prop), CV l x mX8_putCar 0 0 0 [.ref a0, .int x1, .int 6, .int (hI h13 b15 (3 * x1).toNatClampNeg)] h13 q19 ∧ ∀ (h21 : PH), q19 h21 → ((hK h21 a0).1 = 8) ∧ ∃ b23, (hR h21 a0 6 = some b23) ∧ ((hK h21 b23).1 = 100) ∧ (vp_in ((3 * x1) + 1) (hK h21 b23).2) ∧ ∃ (q27 : PH → Prop), CV l x mX8_putCar 0 0 0 [.ref a0, .int x1, .int 7, .int (hI h21 b23 ((3 * x1) + 1).toNatClampNeg)] h21 q27 ∧ ∀ (h29 : PH), q27 h29 → ((hK h29 a0).1 = 8) ∧ ∃ (q30 : PH → Prop), CV l x mX8_putCar 0 0 0 [.ref a0, .int x1, .int 4, .int 1] h29 q30 ∧ ∀ (h33 : PH), q30 h33 → Gm l x mX8_begin 1 66 [(0, .ref a0), (1, .int (x1 + 1))] [] h33 rc rs n0 Q X))) :
    Gm l x mX8_begin 1 66 [(0, .ref a0), (1, .int x1)] [] h rc rs n0 Q X := by
  refine g_iload_n dX8_begin_66 rfl 1 rfl ?_
  refine g_aload_n dX8_begin_67 rfl 0 rfl ?_
  obtain ⟨e1, b2, e3, K⟩ := K
  refine g_get (c := 8) (k := 4) (v := .ref b2) dX8_begin_68 fc_8 (by decide) (by decide) bw_1202 (congrArg pr e3) e1 ?_
  refine g_iconst (v := 1) dX8_begin_71 (by decide) ?_
  obtain ⟨e4, e5, K⟩ := K
  refine g_iald dX8_begin_72 e4 e5 ?_
  refine g_icmp_ge (tgt := 135) dX8_begin_73 (by decide) (fun c6 => ?_) (fun c6 => ?_)
  · replace K := K.1 c6
    refine g_iconst (v := 0) dX8_begin_135 (by decide) ?_
    refine g_istore_n (lv' := [(0, .ref a0), (1, .int 0)]) dX8_begin_136 rfl (by decide) rfl ?_
    exact K
  · replace K := K.2 c6
    refine g_aload_n dX8_begin_76 rfl 0 rfl ?_
    refine g_iload_n dX8_begin_77 rfl 1 rfl ?_
    refine g_iconst (v := 0) dX8_begin_78 (by decide) ?_
    refine g_aload_n dX8_begin_79 rfl 0 rfl ?_
    obtain ⟨b7, e8, K⟩ := K
    refine g_get (c := 8) (k := 6) (v := .ref b7) dX8_begin_80 fc_8 (by decide) (by decide) bw_1204 (congrArg pr e8) e1 ?_
    refine g_iconst (v := 3) dX8_begin_83 (by decide) ?_
    refine g_iload_n dX8_begin_84 rfl 1 rfl ?_
    refine g_imul dX8_begin_85 ?_
    obtain ⟨e9, e10, K⟩ := K
    refine g_iald dX8_begin_86 e9 e10 ?_
    obtain ⟨q11, C12, K⟩ := K
    refine g_callV (M' := mX8_putCar) (b := a0) (As := [.int x1, .int 0, .int (hI h b7 (3 * x1).toNatClampNeg)]) (rest := []) (rc' := rc) (rs' := rs) dX8_begin_87 bw_1190 bw_1192 bs_37 bw_9 bw_1193 ⟨by decide +kernel, by decide +kernel, show (parseMethodDescriptor mX8_putCar.1.desc).map (fun d => d.parameters.length) = some 3 by decide +kernel⟩ (by decide) (by decide) (Nat.le_of_ble_eq_true rfl) fc_8 (by decide) rfl e1 C12 (Nat.le_of_eq (Nat.add_zero _)) (Nat.le_of_eq (Nat.add_zero _)) (fun _ _ h => h) ?_
    rintro _ h13 ⟨rfl, K1⟩ -
    replace K := K h13 K1
    show Gm l x mX8_begin 1 90 [(0, .ref a0), (1, .int x1)] [] h13 rc rs n0 Q X
    refine g_aload_n dX8_begin_90 rfl 0 rfl ?_
    refine g_iload_n dX8_begin_91 rfl 1 rfl ?_
    refine g_bipush (v := 6) dX8_begin_92 (by decide) ?_
    refine g_aload_n dX8_begin_94 rfl 0 rfl ?_
    obtain ⟨e14, b15, e16, K⟩ := K
    refine g_get (c := 8) (k := 6) (v := .ref b15) dX8_begin_95 fc_8 (by decide) (by decide) bw_1204 (congrArg pr e16) e14 ?_
    refine g_iconst (v := 3) dX8_begin_98 (by decide) ?_
    refine g_iload_n dX8_begin_99 rfl 1 rfl ?_
    refine g_imul dX8_begin_100 ?_
    obtain ⟨e17, e18, K⟩ := K
    refine g_iald dX8_begin_101 e17 e18 ?_
    obtain ⟨q19, C20, K⟩ := K
    refine g_callV (M' := mX8_putCar) (b := a0) (As := [.int x1, .int 6, .int (hI h13 b15 (3 * x1).toNatClampNeg)]) (rest := []) (rc' := rc) (rs' := rs) dX8_begin_102 bw_1190 bw_1192 bs_37 bw_9 bw_1193 ⟨by decide +kernel, by decide +kernel, show (parseMethodDescriptor mX8_putCar.1.desc).map (fun d => d.parameters.length) = some 3 by decide +kernel⟩ (by decide) (by decide) (Nat.le_of_ble_eq_true rfl) fc_8 (by decide) rfl e14 C20 (Nat.le_of_eq (Nat.add_zero _)) (Nat.le_of_eq (Nat.add_zero _)) (fun _ _ h => h) ?_
    rintro _ h21 ⟨rfl, K1⟩ -
    replace K := K h21 K1
    show Gm l x mX8_begin 1 105 [(0, .ref a0), (1, .int x1)] [] h21 rc rs n0 Q X
    refine g_aload_n dX8_begin_105 rfl 0 rfl ?_
    refine g_iload_n dX8_begin_106 rfl 1 rfl ?_
    refine g_bipush (v := 7) dX8_begin_107 (by decide) ?_
    refine g_aload_n dX8_begin_109 rfl 0 rfl ?_
    obtain ⟨e22, b23, e24, K⟩ := K
    refine g_get (c := 8) (k := 6) (v := .ref b23) dX8_begin_110 fc_8 (by decide) (by decide) bw_1204 (congrArg pr e24) e22 ?_
    refine g_iconst (v := 3) dX8_begin_113 (by decide) ?_
    refine g_iload_n dX8_begin_114 rfl 1 rfl ?_
    refine g_imul dX8_begin_115 ?_
    refine g_iconst (v := 1) dX8_begin_116 (by decide) ?_
    refine g_iadd dX8_begin_117 ?_
    obtain ⟨e25, e26, K⟩ := K
    refine g_iald dX8_begin_118 e25 e26 ?_
    obtain ⟨q27, C28, K⟩ := K
    refine g_callV (M' := mX8_putCar) (b := a0) (As := [.int x1, .int 7, .int (hI h21 b23 ((3 * x1) + 1).toNatClampNeg)]) (rest := []) (rc' := rc) (rs' := rs) dX8_begin_119 bw_1190 bw_1192 bs_37 bw_9 bw_1193 ⟨by decide +kernel, by decide +kernel, show (parseMethodDescriptor mX8_putCar.1.desc).map (fun d => d.parameters.length) = some 3 by decide +kernel⟩ (by decide) (by decide) (Nat.le_of_ble_eq_true rfl) fc_8 (by decide) rfl e22 C28 (Nat.le_of_eq (Nat.add_zero _)) (Nat.le_of_eq (Nat.add_zero _)) (fun _ _ h => h) ?_
    rintro _ h29 ⟨rfl, K1⟩ -
    replace K := K h29 K1
    show Gm l x mX8_begin 1 122 [(0, .ref a0), (1, .int x1)] [] h29 rc rs n0 Q X
    refine g_aload_n dX8_begin_122 rfl 0 rfl ?_
    refine g_iload_n dX8_begin_123 rfl 1 rfl ?_
    refine g_iconst (v := 4) dX8_begin_124 (by decide) ?_
    refine g_iconst (v := 1) dX8_begin_125 (by decide) ?_
    obtain ⟨e32, K⟩ := K
    obtain ⟨q30, C31, K⟩ := K
    refine g_callV (M' := mX8_putCar) (b := a0) (As := [.int x1, .int 4, .int 1]) (rest := []) (rc' := rc) (rs' := rs) dX8_begin_126 bw_1190 bw_1192 bs_37 bw_9 bw_1193 ⟨by decide +kernel, by decide +kernel, show (parseMethodDescriptor mX8_putCar.1.desc).map (fun d => d.parameters.length) = some 3 by decide +kernel⟩ (by decide) (by decide) (Nat.le_of_ble_eq_true rfl) fc_8 (by decide) rfl e32 C31 (Nat.le_of_eq (Nat.add_zero _)) (Nat.le_of_eq (Nat.add_zero _)) (fun _ _ h => h) ?_
    rintro _ h33 ⟨rfl, K1⟩ -
    replace K := K h33 K1
    show Gm l x mX8_begin 1 129 [(0, .ref a0), (1, .int x1)] [] h33 rc rs n0 Q X
    refine g_iinc (v := (x1 + 1)) (lv' := [(0, .ref a0), (1, .int (x1 + 1))]) dX8_begin_129 1 rfl (by rfl) (by decide) rfl ?_
    refine g_goto (tgt := 66) dX8_begin_132 (by decide) ?_
    exact K
set_option maxRecDepth 20000 in
set_option maxHeartbeats 4000000 in
theorem vX8_begin_137 {l : Launch} {x : CX} {a0 : Nat} {x1 : Int32} {h : PH} {rc rs n0 : Nat} {Q : Option Value → PH → Prop} {X : String → PH → Prop}
    (K : ((hK h a0).1 = 8) ∧ ∃ b2, (hR h a0 4 = some b2) ∧ ((hK h b2).1 = 100) ∧ (vp_in 2 (hK h b2).2) ∧ (((hI h b2 (Int32.toNatClampNeg 2)) ≤ x1 → Q none h) ∧ (¬ (hI h b2 (Int32.toNatClampNeg 2)) ≤ x1 → Gm l x mX8_begin 1 149 [(0, .ref a0), (1, .int x1), (2, .int 0)] [] h rc rs n0 Q X))) :
    Gm l x mX8_begin 1 137 [(0, .ref a0), (1, .int x1)] [] h rc rs n0 Q X := by
  refine g_iload_n dX8_begin_137 rfl 1 rfl ?_
  refine g_aload_n dX8_begin_138 rfl 0 rfl ?_
  obtain ⟨e1, b2, e3, K⟩ := K
  refine g_get (c := 8) (k := 4) (v := .ref b2) dX8_begin_139 fc_8 (by decide) (by decide) bw_1202 (congrArg pr e3) e1 ?_
  refine g_iconst (v := 2) dX8_begin_142 (by decide) ?_
  obtain ⟨e4, e5, K⟩ := K
  refine g_iald dX8_begin_143 e4 e5 ?_
  refine g_icmp_ge (tgt := 205) dX8_begin_144 (by decide) (fun c6 => ?_) (fun c6 => ?_)
  · replace K := K.1 c6
    exact g_vret dX8_begin_205 rfl K
  · replace K := K.2 c6
    refine g_iconst (v := 0) dX8_begin_147 (by decide) ?_
    refine g_istore_n (lv' := [(0, .ref a0), (1, .int x1), (2, .int 0)]) dX8_begin_148 rfl (by decide) rfl ?_
    exact K
set_option maxRecDepth 20000 in
set_option maxHeartbeats 4000000 in
theorem vX8_begin_149 {l : Launch} {x : CX} {a0 : Nat} {x1 : Int32} {x2 : Int32} {h : PH} {rc rs n0 : Nat} {Q : Option Value → PH → Prop} {X : String → PH → Prop}
    (K : ((4 ≤ x2 → ((hK h a0).1 = 8) ∧ ∃ (q2 : PH → Prop), CV l x mX8_put 0 0 0 [.ref a0, .int x1, .int 5, .int (-1)] h q2 ∧ ∀ (h5 : PH), q2 h5 → ((hK h5 a0).1 = 8) ∧ ∃ (q6 : PH → Prop), CV l x mX8_put 0 0 0 [.ref a0, .int x1, .int 7, .int (-1)] h5 q6 ∧ ∀ (h9 : PH), q6 h9 → ((hK h9 a0).1 = 8) ∧ ∃ (q10 : PH → Prop), CV l x mX8_put 0 0 0 [.ref a0, .int x1, .int 8, .int (-1)] h9 q10 ∧ ∀ (h13 : PH), q10 h13 → Gm l x mX8_begin 1 137 [(0, .ref a0), (1, .int (x1 + 1))] [] h13 rc rs n0 Q X) ∧ (¬ 4 ≤ x2 → ((hK h a0).1 = 8) ∧ ∃ b15, (hR h a0 8 = some b15) ∧ ((hK h b15).1 = 100) ∧ (vp_in ((4 * x1) + x2) (hK h b15).2) ∧ ∃ (q19 : PH → Prop), CV l x mX8_put 0 0 0 [.ref a0, .int x1, .int x2, .int (hI h b15 ((4 * x1) + x2).toNatClampNeg)] h q19 ∧ ∀ (h21 : PH), q19 h21 → Gm l x mX8_begin 1 149 [(0, .ref a0), (1, .int x1), (2, .int (x2 + 1))] [] h21 rc rs n0 Q X))) :
    Gm l x mX8_begin 1 149 [(0, .ref a0), (1, .int x1), (2, .int x2)] [] h rc rs n0 Q X := by
  refine g_iload_n dX8_begin_149 rfl 2 rfl ?_
  refine g_iconst (v := 4) dX8_begin_150 (by decide) ?_
  refine g_icmp_ge (tgt := 176) dX8_begin_151 (by decide) (fun c1 => ?_) (fun c1 => ?_)
  · replace K := K.1 c1
    refine g_aload_n dX8_begin_176 rfl 0 rfl ?_
    refine g_iload_n dX8_begin_177 rfl 1 rfl ?_
    refine g_iconst (v := 5) dX8_begin_178 (by decide) ?_
    refine g_iconst (v := (-1)) dX8_begin_179 (by decide) ?_
    obtain ⟨e4, K⟩ := K
    obtain ⟨q2, C3, K⟩ := K
    refine g_callV (M' := mX8_put) (b := a0) (As := [.int x1, .int 5, .int (-1)]) (rest := []) (rc' := rc) (rs' := rs) dX8_begin_180 bw_1194 bw_1196 bs_38 bw_9 bw_1197 ⟨by decide +kernel, by decide +kernel, show (parseMethodDescriptor mX8_put.1.desc).map (fun d => d.parameters.length) = some 3 by decide +kernel⟩ (by decide) (by decide) (Nat.le_of_ble_eq_true rfl) fc_8 (by decide) rfl e4 C3 (Nat.le_of_eq (Nat.add_zero _)) (Nat.le_of_eq (Nat.add_zero _)) (fun _ _ h => h) ?_
    rintro _ h5 ⟨rfl, K1⟩ -
    replace K := K h5 K1
    show Gm l x mX8_begin 1 183 [(0, .ref a0), (1, .int x1), (2, .int x2)] [] h5 rc rs n0 Q X
    refine g_aload_n dX8_begin_183 rfl 0 rfl ?_
    refine g_iload_n dX8_begin_184 rfl 1 rfl ?_
    refine g_bipush (v := 7) dX8_begin_185 (by decide) ?_
    refine g_iconst (v := (-1)) dX8_begin_187 (by decide) ?_
    obtain ⟨e8, K⟩ := K
    obtain ⟨q6, C7, K⟩ := K
    refine g_callV (M' := mX8_put) (b := a0) (As := [.int x1, .int 7, .int (-1)]) (rest := []) (rc' := rc) (rs' := rs) dX8_begin_188 bw_1194 bw_1196 bs_38 bw_9 bw_1197 ⟨by decide +kernel, by decide +kernel, show (parseMethodDescriptor mX8_put.1.desc).map (fun d => d.parameters.length) = some 3 by decide +kernel⟩ (by decide) (by decide) (Nat.le_of_ble_eq_true rfl) fc_8 (by decide) rfl e8 C7 (Nat.le_of_eq (Nat.add_zero _)) (Nat.le_of_eq (Nat.add_zero _)) (fun _ _ h => h) ?_
    rintro _ h9 ⟨rfl, K1⟩ -
    replace K := K h9 K1
    show Gm l x mX8_begin 1 191 [(0, .ref a0), (1, .int x1), (2, .int x2)] [] h9 rc rs n0 Q X
    refine g_aload_n dX8_begin_191 rfl 0 rfl ?_
    refine g_iload_n dX8_begin_192 rfl 1 rfl ?_
    refine g_bipush (v := 8) dX8_begin_193 (by decide) ?_
    refine g_iconst (v := (-1)) dX8_begin_195 (by decide) ?_
    obtain ⟨e12, K⟩ := K
    obtain ⟨q10, C11, K⟩ := K
    refine g_callV (M' := mX8_put) (b := a0) (As := [.int x1, .int 8, .int (-1)]) (rest := []) (rc' := rc) (rs' := rs) dX8_begin_196 bw_1194 bw_1196 bs_38 bw_9 bw_1197 ⟨by decide +kernel, by decide +kernel, show (parseMethodDescriptor mX8_put.1.desc).map (fun d => d.parameters.length) = some 3 by decide +kernel⟩ (by decide) (by decide) (Nat.le_of_ble_eq_true rfl) fc_8 (by decide) rfl e12 C11 (Nat.le_of_eq (Nat.add_zero _)) (Nat.le_of_eq (Nat.add_zero _)) (fun _ _ h => h) ?_
    rintro _ h13 ⟨rfl, K1⟩ -
    replace K := K h13 K1
    show Gm l x mX8_begin 1 199 [(0, .ref a0), (1, .int x1), (2, .int x2)] [] h13 rc rs n0 Q X
    refine g_iinc (v := (x1 + 1)) (lv' := [(0, .ref a0), (1, .int (x1 + 1)), (2, .int x2)]) dX8_begin_199 1 rfl (by rfl) (by decide) rfl ?_
    refine g_goto (tgt := 137) dX8_begin_202 (by decide) ?_
    exact Gm.sub [0, 1] rfl K
  · replace K := K.2 c1
    refine g_aload_n dX8_begin_154 rfl 0 rfl ?_
    refine g_iload_n dX8_begin_155 rfl 1 rfl ?_
    refine g_iload_n dX8_begin_156 rfl 2 rfl ?_
    refine g_aload_n dX8_begin_157 rfl 0 rfl ?_
    obtain ⟨e14, b15, e16, K⟩ := K
    refine g_get (c := 8) (k := 8) (v := .ref b15) dX8_begin_158 fc_8 (by decide) (by decide) bw_1206 (congrArg pr e16) e14 ?_
    refine g_iconst (v := 4) dX8_begin_161 (by decide) ?_
    refine g_iload_n dX8_begin_162 rfl 1 rfl ?_
    refine g_imul dX8_begin_163 ?_
    refine g_iload_n dX8_begin_164 rfl 2 rfl ?_
    refine g_iadd dX8_begin_165 ?_
    obtain ⟨e17, e18, K⟩ := K
    refine g_iald dX8_begin_166 e17 e18 ?_
    obtain ⟨q19, C20, K⟩ := K
    refine g_callV (M' := mX8_put) (b := a0) (As := [.int x1, .int x2, .int (hI h b15 ((4 * x1) + x2).toNatClampNeg)]) (rest := []) (rc' := rc) (rs' := rs) dX8_begin_167 bw_1194 bw_1196 bs_38 bw_9 bw_1197 ⟨by decide +kernel, by decide +kernel, show (parseMethodDescriptor mX8_put.1.desc).map (fun d => d.parameters.length) = some 3 by decide +kernel⟩ (by decide) (by decide) (Nat.le_of_ble_eq_true rfl) fc_8 (by decide) rfl e14 C20 (Nat.le_of_eq (Nat.add_zero _)) (Nat.le_of_eq (Nat.add_zero _)) (fun _ _ h => h) ?_
    rintro _ h21 ⟨rfl, K1⟩ -
    replace K := K h21 K1
    show Gm l x mX8_begin 1 170 [(0, .ref a0), (1, .int x1), (2, .int x2)] [] h21 rc rs n0 Q X
    refine g_iinc (v := (x2 + 1)) (lv' := [(0, .ref a0), (1, .int x1), (2, .int (x2 + 1))]) dX8_begin_170 2 rfl (by rfl) (by decide) rfl ?_
    refine g_goto (tgt := 149) dX8_begin_173 (by decide) ?_
    exact K
theorem dX8_wayOf_0 : decode cX8_wayOf 0 = .ok (.aload_n 0, 1) := by decide +kernel
theorem dX8_wayOf_1 : decode cX8_wayOf 1 = .ok (.iload_n 1, 1) := by decide +kernel
theorem dX8_wayOf_2 : decode cX8_wayOf 2 = .ok (.iconst 3, 1) := by decide +kernel
theorem dX8_wayOf_3 : decode cX8_wayOf 3 = .ok (.invokevirtual 228, 3) := by decide +kernel
theorem dX8_wayOf_6 : decode cX8_wayOf 6 = .ok (.aload_n 0, 1) := by decide +kernel
theorem dX8_wayOf_7 : decode cX8_wayOf 7 = .ok (.iload_n 1, 1) := by decide +kernel
theorem dX8_wayOf_8 : decode cX8_wayOf 8 = .ok (.iconst 5, 1) := by decide +kernel
theorem dX8_wayOf_9 : decode cX8_wayOf 9 = .ok (.invokevirtual 228, 3) := by decide +kernel
theorem dX8_wayOf_12 : decode cX8_wayOf 12 = .ok (.if_icmp .le 7, 3) := by decide +kernel
theorem dX8_wayOf_15 : decode cX8_wayOf 15 = .ok (.iconst 1, 1) := by decide +kernel
theorem dX8_wayOf_16 : decode cX8_wayOf 16 = .ok (.goto 4, 3) := by decide +kernel
theorem dX8_wayOf_19 : decode cX8_wayOf 19 = .ok (.iconst (-1), 1) := by decide +kernel
theorem dX8_wayOf_20 : decode cX8_wayOf 20 = .ok (.ireturn, 1) := by decide +kernel
set_option maxRecDepth 20000 in
set_option maxHeartbeats 4000000 in
theorem vX8_wayOf_0 {l : Launch} {x : CX} {a0 : Nat} {x1 : Int32} {h : PH} {rc rs n0 : Nat} {Q : Option Value → PH → Prop} {X : String → PH → Prop}
    (K : ((hK h a0).1 = 8) ∧ ∃ (q1 : Int32 → PH → Prop), CI l x mX8_of 0 0 0 [.ref a0, .int x1, .int 3] h q1 ∧ ∀ (r5 : Int32) (h4 : PH), q1 r5 h4 → ((hK h4 a0).1 = 8) ∧ ∃ (q6 : Int32 → PH → Prop), CI l x mX8_of 0 0 0 [.ref a0, .int x1, .int 5] h4 q6 ∧ ∀ (r10 : Int32) (h9 : PH), q6 r10 h9 → Q (some (.int (if r5 ≤ r10 then (-1) else 1 : Int32))) h9) :
    Gm l x mX8_wayOf 1 0 [(0, .ref a0), (1, .int x1)] [] h rc rs n0 Q X := by
  refine g_aload_n dX8_wayOf_0 rfl 0 rfl ?_
  refine g_iload_n dX8_wayOf_1 rfl 1 rfl ?_
  refine g_iconst (v := 3) dX8_wayOf_2 (by decide) ?_
  obtain ⟨e3, K⟩ := K
  obtain ⟨q1, C2, K⟩ := K
  refine g_callV (M' := mX8_of) (b := a0) (As := [.int x1, .int 3]) (rest := []) (rc' := rc) (rs' := rs) dX8_wayOf_3 bw_1413 bw_1415 bs_52 bw_9 bw_1416 ⟨by decide +kernel, by decide +kernel, show (parseMethodDescriptor mX8_of.1.desc).map (fun d => d.parameters.length) = some 2 by decide +kernel⟩ (by decide) (by decide) (Nat.le_of_ble_eq_true rfl) fc_8 (by decide) rfl e3 C2 (Nat.le_of_eq (Nat.add_zero _)) (Nat.le_of_eq (Nat.add_zero _)) (fun _ _ h => h) ?_
  rintro _ h4 ⟨r5, rfl, K1⟩ -
  replace K := K r5 h4 K1
  show Gm l x mX8_wayOf 1 6 [(0, .ref a0), (1, .int x1)] [.int r5] h4 rc rs n0 Q X
  refine g_aload_n dX8_wayOf_6 rfl 0 rfl ?_
  refine g_iload_n dX8_wayOf_7 rfl 1 rfl ?_
  refine g_iconst (v := 5) dX8_wayOf_8 (by decide) ?_
  obtain ⟨e8, K⟩ := K
  obtain ⟨q6, C7, K⟩ := K
  refine g_callV (M' := mX8_of) (b := a0) (As := [.int x1, .int 5]) (rest := [.int r5]) (rc' := rc) (rs' := rs) dX8_wayOf_9 bw_1413 bw_1415 bs_52 bw_9 bw_1416 ⟨by decide +kernel, by decide +kernel, show (parseMethodDescriptor mX8_of.1.desc).map (fun d => d.parameters.length) = some 2 by decide +kernel⟩ (by decide) (by decide) (Nat.le_of_ble_eq_true rfl) fc_8 (by decide) rfl e8 C7 (Nat.le_of_eq (Nat.add_zero _)) (Nat.le_of_eq (Nat.add_zero _)) (fun _ _ h => h) ?_
  rintro _ h9 ⟨r10, rfl, K1⟩ -
  replace K := K r10 h9 K1
  show Gm l x mX8_wayOf 1 12 [(0, .ref a0), (1, .int x1)] [.int r10, .int r5] h9 rc rs n0 Q X
  have KJ : Gm l x mX8_wayOf 1 20 [(0, .ref a0), (1, .int x1)] [.int (if r5 ≤ r10 then (-1) else 1 : Int32)] h9 rc rs n0 Q X := by
    exact g_iret dX8_wayOf_20 rfl K
  refine g_icmp_le (tgt := 19) dX8_wayOf_12 (by decide) (fun c11 => ?_) (fun c11 => ?_)
  · refine g_iconst (v := (-1)) dX8_wayOf_19 (by decide) ?_
    first | (simp only [if_pos c11] at KJ; exact KJ) | (simp only [if_pos c11, ite_true, ite_false, eq_self] at KJ; exact KJ) | (simp only [if_pos c11] at KJ ⊢; exact KJ) | exact KJ
  · refine g_iconst (v := 1) dX8_wayOf_15 (by decide) ?_
    refine g_goto (tgt := 20) dX8_wayOf_16 (by decide) ?_
    first | (simp only [if_neg c11] at KJ; exact KJ) | (simp only [if_neg c11, ite_true, ite_false, eq_self] at KJ; exact KJ) | (simp only [if_neg c11] at KJ ⊢; exact KJ) | exact KJ
theorem dX8_hasCall_0 : decode cX8_hasCall 0 = .ok (.aload_n 0, 1) := by decide +kernel
theorem dX8_hasCall_1 : decode cX8_hasCall 1 = .ok (.getfield 29, 3) := by decide +kernel
theorem dX8_hasCall_4 : decode cX8_hasCall 4 = .ok (.iload_n 2, 1) := by decide +kernel
theorem dX8_hasCall_5 : decode cX8_hasCall 5 = .ok (.iload_n 3, 1) := by decide +kernel
theorem dX8_hasCall_6 : decode cX8_hasCall 6 = .ok (.iconst 1, 1) := by decide +kernel
theorem dX8_hasCall_7 : decode cX8_hasCall 7 = .ok (.invokestatic 234, 3) := by decide +kernel
theorem dX8_hasCall_10 : decode cX8_hasCall 10 = .ok (.iaload, 1) := by decide +kernel
theorem dX8_hasCall_11 : decode cX8_hasCall 11 = .ok (.iload_n 1, 1) := by decide +kernel
theorem dX8_hasCall_12 : decode cX8_hasCall 12 = .ok (.iconst 1, 1) := by decide +kernel
theorem dX8_hasCall_13 : decode cX8_hasCall 13 = .ok (.iadd, 1) := by decide +kernel
theorem dX8_hasCall_14 : decode cX8_hasCall 14 = .ok (.if_icmp .eq 20, 3) := by decide +kernel
theorem dX8_hasCall_17 : decode cX8_hasCall 17 = .ok (.aload_n 0, 1) := by decide +kernel
theorem dX8_hasCall_18 : decode cX8_hasCall 18 = .ok (.getfield 29, 3) := by decide +kernel
theorem dX8_hasCall_21 : decode cX8_hasCall 21 = .ok (.iload_n 2, 1) := by decide +kernel
theorem dX8_hasCall_22 : decode cX8_hasCall 22 = .ok (.iload_n 3, 1) := by decide +kernel
theorem dX8_hasCall_23 : decode cX8_hasCall 23 = .ok (.iconst 2, 1) := by decide +kernel
theorem dX8_hasCall_24 : decode cX8_hasCall 24 = .ok (.invokestatic 234, 3) := by decide +kernel
theorem dX8_hasCall_27 : decode cX8_hasCall 27 = .ok (.iaload, 1) := by decide +kernel
theorem dX8_hasCall_28 : decode cX8_hasCall 28 = .ok (.iload_n 1, 1) := by decide +kernel
theorem dX8_hasCall_29 : decode cX8_hasCall 29 = .ok (.iconst 1, 1) := by decide +kernel
theorem dX8_hasCall_30 : decode cX8_hasCall 30 = .ok (.iadd, 1) := by decide +kernel
theorem dX8_hasCall_31 : decode cX8_hasCall 31 = .ok (.if_icmp .ne 7, 3) := by decide +kernel
theorem dX8_hasCall_34 : decode cX8_hasCall 34 = .ok (.iconst 1, 1) := by decide +kernel
theorem dX8_hasCall_35 : decode cX8_hasCall 35 = .ok (.goto 4, 3) := by decide +kernel
theorem dX8_hasCall_38 : decode cX8_hasCall 38 = .ok (.iconst 0, 1) := by decide +kernel
theorem dX8_hasCall_39 : decode cX8_hasCall 39 = .ok (.ireturn, 1) := by decide +kernel
set_option maxRecDepth 20000 in
set_option maxHeartbeats 4000000 in
theorem vX8_hasCall_0 {l : Launch} {x : CX} {a0 : Nat} {x1 : Int32} {x2 : Int32} {x3 : Int32} {h : PH} {rc rs n0 : Nat} {Q : Option Value → PH → Prop} {X : String → PH → Prop}
    (K : ((hK h a0).1 = 8) ∧ ∃ b2, (hR h a0 2 = some b2) ∧ ∃ (q4 : Int32 → PH → Prop), CI l x mX8_callAt 0 0 0 [.int x2, .int x3, .int 1] h q4 ∧ ∀ (r7 : Int32) (h6 : PH), q4 r7 h6 → ((hK h6 b2).1 = 100) ∧ (vp_in r7 (hK h6 b2).2) ∧ (((hI h6 b2 r7.toNatClampNeg) = (x1 + 1) → ((1 : Int32) = 0 ∨ (1 : Int32) = 1) ∧ Q (some (.int 1)) h6) ∧ (¬ (hI h6 b2 r7.toNatClampNeg) = (x1 + 1) → ((hK h6 a0).1 = 8) ∧ ∃ b12, (hR h6 a0 2 = some b12) ∧ ∃ (q14 : Int32 → PH → Prop), CI l x mX8_callAt 0 0 0 [.int x2, .int x3, .int 2] h6 q14 ∧ ∀ (r17 : Int32) (h16 : PH), q14 r17 h16 → ((hK h16 b12).1 = 100) ∧ (vp_in r17 (hK h16 b12).2) ∧ (((if (hI h16 b12 r17.toNatClampNeg) = (x1 + 1) then 1 else 0 : Int32) : Int32) = 0 ∨ ((if (hI h16 b12 r17.toNatClampNeg) = (x1 + 1) then 1 else 0 : Int32) : Int32) = 1) ∧ Q (some (.int (if (hI h16 b12 r17.toNatClampNeg) = (x1 + 1) then 1 else 0 : Int32))) h16))) :
    Gm l x mX8_hasCall 1 0 [(0, .ref a0), (1, .int x1), (2, .int x2), (3, .int x3)] [] h rc rs n0 Q X := by
  refine g_aload_n dX8_hasCall_0 rfl 0 rfl ?_
  obtain ⟨e1, b2, e3, K⟩ := K
  refine g_get (c := 8) (k := 2) (v := .ref b2) dX8_hasCall_1 fc_8 (by decide) (by decide) bw_1200 (congrArg pr e3) e1 ?_
  refine g_iload_n dX8_hasCall_4 rfl 2 rfl ?_
  refine g_iload_n dX8_hasCall_5 rfl 3 rfl ?_
  refine g_iconst (v := 1) dX8_hasCall_6 (by decide) ?_
  obtain ⟨q4, C5, K⟩ := K
  refine g_callS (M' := mX8_callAt) (As := [.int x2, .int x3, .int 1]) (rest := [.ref b2]) (rc' := rc) (rs' := rs) dX8_hasCall_7 bw_1469 bw_1470 bw_9 bw_1471 ⟨by decide +kernel, by decide +kernel, show (parseMethodDescriptor mX8_callAt.1.desc).map (fun d => d.parameters.length) = some 3 by decide +kernel⟩ (by decide) (by decide) (Nat.le_of_ble_eq_true rfl) C5 (Nat.le_of_eq (Nat.add_zero _)) (Nat.le_of_eq (Nat.add_zero _)) (fun _ _ h => h) ?_
  rintro _ h6 ⟨r7, rfl, K1⟩ -
  replace K := K r7 h6 K1
  show Gm l x mX8_hasCall 1 10 [(0, .ref a0), (1, .int x1), (2, .int x2), (3, .int x3)] [.int r7, .ref b2] h6 rc rs n0 Q X
  obtain ⟨e8, e9, K⟩ := K
  refine g_iald dX8_hasCall_10 e8 e9 ?_
  refine g_iload_n dX8_hasCall_11 rfl 1 rfl ?_
  refine g_iconst (v := 1) dX8_hasCall_12 (by decide) ?_
  refine g_iadd dX8_hasCall_13 ?_
  refine g_icmp_eq (tgt := 34) dX8_hasCall_14 (by decide) (fun c10 => ?_) (fun c10 => ?_)
  · replace K := K.1 c10
    refine g_iconst (v := 1) dX8_hasCall_34 (by decide) ?_
    refine g_goto (tgt := 39) dX8_hasCall_35 (by decide) ?_
    exact g_zret dX8_hasCall_39 rfl K.1 K.2
  · replace K := K.2 c10
    refine g_aload_n dX8_hasCall_17 rfl 0 rfl ?_
    obtain ⟨e11, b12, e13, K⟩ := K
    refine g_get (c := 8) (k := 2) (v := .ref b12) dX8_hasCall_18 fc_8 (by decide) (by decide) bw_1200 (congrArg pr e13) e11 ?_
    refine g_iload_n dX8_hasCall_21 rfl 2 rfl ?_
    refine g_iload_n dX8_hasCall_22 rfl 3 rfl ?_
    refine g_iconst (v := 2) dX8_hasCall_23 (by decide) ?_
    obtain ⟨q14, C15, K⟩ := K
    refine g_callS (M' := mX8_callAt) (As := [.int x2, .int x3, .int 2]) (rest := [.ref b12]) (rc' := rc) (rs' := rs) dX8_hasCall_24 bw_1469 bw_1470 bw_9 bw_1471 ⟨by decide +kernel, by decide +kernel, show (parseMethodDescriptor mX8_callAt.1.desc).map (fun d => d.parameters.length) = some 3 by decide +kernel⟩ (by decide) (by decide) (Nat.le_of_ble_eq_true rfl) C15 (Nat.le_of_eq (Nat.add_zero _)) (Nat.le_of_eq (Nat.add_zero _)) (fun _ _ h => h) ?_
    rintro _ h16 ⟨r17, rfl, K1⟩ -
    replace K := K r17 h16 K1
    show Gm l x mX8_hasCall 1 27 [(0, .ref a0), (1, .int x1), (2, .int x2), (3, .int x3)] [.int r17, .ref b12] h16 rc rs n0 Q X
    obtain ⟨e18, e19, K⟩ := K
    refine g_iald dX8_hasCall_27 e18 e19 ?_
    refine g_iload_n dX8_hasCall_28 rfl 1 rfl ?_
    refine g_iconst (v := 1) dX8_hasCall_29 (by decide) ?_
    refine g_iadd dX8_hasCall_30 ?_
    have KJ : Gm l x mX8_hasCall 1 39 [(0, .ref a0), (1, .int x1), (2, .int x2), (3, .int x3)] [.int (if (hI h16 b12 r17.toNatClampNeg) = (x1 + 1) then 1 else 0 : Int32)] h16 rc rs n0 Q X := by
      exact g_zret dX8_hasCall_39 rfl K.1 K.2
    refine g_icmp_ne (tgt := 38) dX8_hasCall_31 (by decide) (fun c20 => ?_) (fun c20 => ?_)
    · refine g_iconst (v := 0) dX8_hasCall_38 (by decide) ?_
      first | (simp only [if_neg c20] at KJ; exact KJ) | (simp only [if_neg c20, ite_true, ite_false, eq_self] at KJ; exact KJ) | (simp only [if_neg c20] at KJ ⊢; exact KJ) | exact KJ
    · refine g_iconst (v := 1) dX8_hasCall_34 (by decide) ?_
      refine g_goto (tgt := 39) dX8_hasCall_35 (by decide) ?_
      first | (simp only [if_pos c20] at KJ; exact KJ) | (simp only [if_pos c20, ite_true, ite_false, eq_self] at KJ; exact KJ) | (simp only [if_pos c20] at KJ ⊢; exact KJ) | exact KJ
theorem dX8_isFull_0 : decode cX8_isFull 0 = .ok (.aload_n 0, 1) := by decide +kernel
theorem dX8_isFull_1 : decode cX8_isFull 1 = .ok (.iload_n 1, 1) := by decide +kernel
theorem dX8_isFull_2 : decode cX8_isFull 2 = .ok (.iconst 3, 1) := by decide +kernel
theorem dX8_isFull_3 : decode cX8_isFull 3 = .ok (.invokevirtual 238, 3) := by decide +kernel
theorem dX8_isFull_6 : decode cX8_isFull 6 = .ok (.invokestatic 241, 3) := by decide +kernel
theorem dX8_isFull_9 : decode cX8_isFull 9 = .ok (.aload_n 0, 1) := by decide +kernel
theorem dX8_isFull_10 : decode cX8_isFull 10 = .ok (.iload_n 1, 1) := by decide +kernel
theorem dX8_isFull_11 : decode cX8_isFull 11 = .ok (.bipush 7, 2) := by decide +kernel
theorem dX8_isFull_13 : decode cX8_isFull 13 = .ok (.invokevirtual 238, 3) := by decide +kernel
theorem dX8_isFull_16 : decode cX8_isFull 16 = .ok (.if_icmp .ne 7, 3) := by decide +kernel
theorem dX8_isFull_19 : decode cX8_isFull 19 = .ok (.iconst 1, 1) := by decide +kernel
theorem dX8_isFull_20 : decode cX8_isFull 20 = .ok (.goto 4, 3) := by decide +kernel
theorem dX8_isFull_23 : decode cX8_isFull 23 = .ok (.iconst 0, 1) := by decide +kernel
theorem dX8_isFull_24 : decode cX8_isFull 24 = .ok (.ireturn, 1) := by decide +kernel
set_option maxRecDepth 20000 in
set_option maxHeartbeats 4000000 in
theorem vX8_isFull_0 {l : Launch} {x : CX} {a0 : Nat} {x1 : Int32} {h : PH} {rc rs n0 : Nat} {Q : Option Value → PH → Prop} {X : String → PH → Prop}
    (K : ((hK h a0).1 = 8) ∧ ∃ (q1 : Int32 → PH → Prop), CI l x mX8_carOf 0 0 0 [.ref a0, .int x1, .int 3] h q1 ∧ ∀ (r5 : Int32) (h4 : PH), q1 r5 h4 → ∃ (q6 : Int32 → PH → Prop), CI l x mJ6_bitCount_0f7a4 0 0 0 [.int r5] h4 q6 ∧ ∀ (r9 : Int32) (h8 : PH), q6 r9 h8 → ((hK h8 a0).1 = 8) ∧ ∃ (q10 : Int32 → PH → Prop), CI l x mX8_carOf 0 0 0 [.ref a0, .int x1, .int 7] h8 q10 ∧ ∀ (r14 : Int32) (h13 : PH), q10 r14 h13 → (((if r9 = r14 then 1 else 0 : Int32) : Int32) = 0 ∨ ((if r9 = r14 then 1 else 0 : Int32) : Int32) = 1) ∧ Q (some (.int (if r9 = r14 then 1 else 0 : Int32))) h13) :
    Gm l x mX8_isFull 1 0 [(0, .ref a0), (1, .int x1)] [] h rc rs n0 Q X := by
  refine g_aload_n dX8_isFull_0 rfl 0 rfl ?_
  refine g_iload_n dX8_isFull_1 rfl 1 rfl ?_
  refine g_iconst (v := 3) dX8_isFull_2 (by decide) ?_
  obtain ⟨e3, K⟩ := K
  obtain ⟨q1, C2, K⟩ := K
  refine g_callV (M' := mX8_carOf) (b := a0) (As := [.int x1, .int 3]) (rest := []) (rc' := rc) (rs' := rs) dX8_isFull_3 bw_1476 bw_1478 bs_67 bw_9 bw_1479 ⟨by decide +kernel, by decide +kernel, show (parseMethodDescriptor mX8_carOf.1.desc).map (fun d => d.parameters.length) = some 2 by decide +kernel⟩ (by decide) (by decide) (Nat.le_of_ble_eq_true rfl) fc_8 (by decide) rfl e3 C2 (Nat.le_of_eq (Nat.add_zero _)) (Nat.le_of_eq (Nat.add_zero _)) (fun _ _ h => h) ?_
  rintro _ h4 ⟨r5, rfl, K1⟩ -
  replace K := K r5 h4 K1
  show Gm l x mX8_isFull 1 6 [(0, .ref a0), (1, .int x1)] [.int r5] h4 rc rs n0 Q X
  obtain ⟨q6, C7, K⟩ := K
  refine g_callS (M' := mJ6_bitCount_0f7a4) (As := [.int r5]) (rest := []) (rc' := rc) (rs' := rs) dX8_isFull_6 bw_1505 bw_490 bw_21 bw_491 ⟨by decide +kernel, by decide +kernel, show (parseMethodDescriptor mJ6_bitCount_0f7a4.1.desc).map (fun d => d.parameters.length) = some 1 by decide +kernel⟩ (by decide) (by decide) (Nat.le_of_ble_eq_true rfl) C7 (Nat.le_of_eq (Nat.add_zero _)) (Nat.le_of_eq (Nat.add_zero _)) (fun _ _ h => h) ?_
  rintro _ h8 ⟨r9, rfl, K1⟩ -
  replace K := K r9 h8 K1
  show Gm l x mX8_isFull 1 9 [(0, .ref a0), (1, .int x1)] [.int r9] h8 rc rs n0 Q X
  refine g_aload_n dX8_isFull_9 rfl 0 rfl ?_
  refine g_iload_n dX8_isFull_10 rfl 1 rfl ?_
  refine g_bipush (v := 7) dX8_isFull_11 (by decide) ?_
  obtain ⟨e12, K⟩ := K
  obtain ⟨q10, C11, K⟩ := K
  refine g_callV (M' := mX8_carOf) (b := a0) (As := [.int x1, .int 7]) (rest := [.int r9]) (rc' := rc) (rs' := rs) dX8_isFull_13 bw_1476 bw_1478 bs_67 bw_9 bw_1479 ⟨by decide +kernel, by decide +kernel, show (parseMethodDescriptor mX8_carOf.1.desc).map (fun d => d.parameters.length) = some 2 by decide +kernel⟩ (by decide) (by decide) (Nat.le_of_ble_eq_true rfl) fc_8 (by decide) rfl e12 C11 (Nat.le_of_eq (Nat.add_zero _)) (Nat.le_of_eq (Nat.add_zero _)) (fun _ _ h => h) ?_
  rintro _ h13 ⟨r14, rfl, K1⟩ -
  replace K := K r14 h13 K1
  show Gm l x mX8_isFull 1 16 [(0, .ref a0), (1, .int x1)] [.int r14, .int r9] h13 rc rs n0 Q X
  have KJ : Gm l x mX8_isFull 1 24 [(0, .ref a0), (1, .int x1)] [.int (if r9 = r14 then 1 else 0 : Int32)] h13 rc rs n0 Q X := by
    exact g_zret dX8_isFull_24 rfl K.1 K.2
  refine g_icmp_ne (tgt := 23) dX8_isFull_16 (by decide) (fun c15 => ?_) (fun c15 => ?_)
  · refine g_iconst (v := 0) dX8_isFull_23 (by decide) ?_
    first | (simp only [if_neg c15] at KJ; exact KJ) | (simp only [if_neg c15, ite_true, ite_false, eq_self] at KJ; exact KJ) | (simp only [if_neg c15] at KJ ⊢; exact KJ) | exact KJ
  · refine g_iconst (v := 1) dX8_isFull_19 (by decide) ?_
    refine g_goto (tgt := 24) dX8_isFull_20 (by decide) ?_
    first | (simp only [if_pos c15] at KJ; exact KJ) | (simp only [if_pos c15, ite_true, ite_false, eq_self] at KJ; exact KJ) | (simp only [if_pos c15] at KJ ⊢; exact KJ) | exact KJ
theorem dX8_arrives_0 : decode cX8_arrives 0 = .ok (.aload_n 0, 1) := by decide +kernel
theorem dX8_arrives_1 : decode cX8_arrives 1 = .ok (.iload_n 1, 1) := by decide +kernel
theorem dX8_arrives_2 : decode cX8_arrives 2 = .ok (.iconst 4, 1) := by decide +kernel
theorem dX8_arrives_3 : decode cX8_arrives 3 = .ok (.iconst 3, 1) := by decide +kernel
theorem dX8_arrives_4 : decode cX8_arrives 4 = .ok (.invokevirtual 225, 3) := by decide +kernel
theorem dX8_arrives_7 : decode cX8_arrives 7 = .ok (.aload_n 0, 1) := by decide +kernel
theorem dX8_arrives_8 : decode cX8_arrives 8 = .ok (.iload_n 1, 1) := by decide +kernel
theorem dX8_arrives_9 : decode cX8_arrives 9 = .ok (.iconst 5, 1) := by decide +kernel
theorem dX8_arrives_10 : decode cX8_arrives 10 = .ok (.iconst (-1), 1) := by decide +kernel
theorem dX8_arrives_11 : decode cX8_arrives 11 = .ok (.invokevirtual 225, 3) := by decide +kernel
theorem dX8_arrives_14 : decode cX8_arrives 14 = .ok (.aload_n 0, 1) := by decide +kernel
theorem dX8_arrives_15 : decode cX8_arrives 15 = .ok (.iload_n 1, 1) := by decide +kernel
theorem dX8_arrives_16 : decode cX8_arrives 16 = .ok (.bipush 7, 2) := by decide +kernel
theorem dX8_arrives_18 : decode cX8_arrives 18 = .ok (.aload_n 0, 1) := by decide +kernel
theorem dX8_arrives_19 : decode cX8_arrives 19 = .ok (.getfield 29, 3) := by decide +kernel
theorem dX8_arrives_22 : decode cX8_arrives 22 = .ok (.iconst 0, 1) := by decide +kernel
theorem dX8_arrives_23 : decode cX8_arrives 23 = .ok (.iaload, 1) := by decide +kernel
theorem dX8_arrives_24 : decode cX8_arrives 24 = .ok (.invokevirtual 225, 3) := by decide +kernel
theorem dX8_arrives_27 : decode cX8_arrives 27 = .ok (.return_, 1) := by decide +kernel
set_option maxRecDepth 20000 in
set_option maxHeartbeats 4000000 in
theorem vX8_arrives_0 {l : Launch} {x : CX} {a0 : Nat} {x1 : Int32} {h : PH} {rc rs n0 : Nat} {Q : Option Value → PH → Prop} {X : String → PH → Prop}
    (K : ((hK h a0).1 = 8) ∧ ∃ (q1 : PH → Prop), CV l x mX8_put 0 0 0 [.ref a0, .int x1, .int 4, .int 3] h q1 ∧ ∀ (h4 : PH), q1 h4 → ((hK h4 a0).1 = 8) ∧ ∃ (q5 : PH → Prop), CV l x mX8_put 0 0 0 [.ref a0, .int x1, .int 5, .int (-1)] h4 q5 ∧ ∀ (h8 : PH), q5 h8 → ((hK h8 a0).1 = 8) ∧ ∃ b10, (hR h8 a0 2 = some b10) ∧ ((hK h8 b10).1 = 100) ∧ (vp_in 0 (hK h8 b10).2) ∧ ∃ (q14 : PH → Prop), CV l x mX8_put 0 0 0 [.ref a0, .int x1, .int 7, .int (hI h8 b10 (Int32.toNatClampNeg 0))] h8 q14 ∧ ∀ (h16 : PH), q14 h16 → Q none h16) :
    Gm l x mX8_arrives 1 0 [(0, .ref a0), (1, .int x1)] [] h rc rs n0 Q X := by
  refine g_aload_n dX8_arrives_0 rfl 0 rfl ?_
  refine g_iload_n dX8_arrives_1 rfl 1 rfl ?_
  refine g_iconst (v := 4) dX8_arrives_2 (by decide) ?_
  refine g_iconst (v := 3) dX8_arrives_3 (by decide) ?_
  obtain ⟨e3, K⟩ := K
  obtain ⟨q1, C2, K⟩ := K
  refine g_callV (M' := mX8_put) (b := a0) (As := [.int x1, .int 4, .int 3]) (rest := []) (rc' := rc) (rs' := rs) dX8_arrives_4 bw_1194 bw_1196 bs_38 bw_9 bw_1197 ⟨by decide +kernel, by decide +kernel, show (parseMethodDescriptor mX8_put.1.desc).map (fun d => d.parameters.length) = some 3 by decide +kernel⟩ (by decide) (by decide) (Nat.le_of_ble_eq_true rfl) fc_8 (by decide) rfl e3 C2 (Nat.le_of_eq (Nat.add_zero _)) (Nat.le_of_eq (Nat.add_zero _)) (fun _ _ h => h) ?_
  rintro _ h4 ⟨rfl, K1⟩ -
  replace K := K h4 K1
  show Gm l x mX8_arrives 1 7 [(0, .ref a0), (1, .int x1)] [] h4 rc rs n0 Q X
  refine g_aload_n dX8_arrives_7 rfl 0 rfl ?_
  refine g_iload_n dX8_arrives_8 rfl 1 rfl ?_
  refine g_iconst (v := 5) dX8_arrives_9 (by decide) ?_
  refine g_iconst (v := (-1)) dX8_arrives_10 (by decide) ?_
  obtain ⟨e7, K⟩ := K
  obtain ⟨q5, C6, K⟩ := K
  refine g_callV (M' := mX8_put) (b := a0) (As := [.int x1, .int 5, .int (-1)]) (rest := []) (rc' := rc) (rs' := rs) dX8_arrives_11 bw_1194 bw_1196 bs_38 bw_9 bw_1197 ⟨by decide +kernel, by decide +kernel, show (parseMethodDescriptor mX8_put.1.desc).map (fun d => d.parameters.length) = some 3 by decide +kernel⟩ (by decide) (by decide) (Nat.le_of_ble_eq_true rfl) fc_8 (by decide) rfl e7 C6 (Nat.le_of_eq (Nat.add_zero _)) (Nat.le_of_eq (Nat.add_zero _)) (fun _ _ h => h) ?_
  rintro _ h8 ⟨rfl, K1⟩ -
  replace K := K h8 K1
  show Gm l x mX8_arrives 1 14 [(0, .ref a0), (1, .int x1)] [] h8 rc rs n0 Q X
  refine g_aload_n dX8_arrives_14 rfl 0 rfl ?_
  refine g_iload_n dX8_arrives_15 rfl 1 rfl ?_
  refine g_bipush (v := 7) dX8_arrives_16 (by decide) ?_
  refine g_aload_n dX8_arrives_18 rfl 0 rfl ?_
  obtain ⟨e9, b10, e11, K⟩ := K
  refine g_get (c := 8) (k := 2) (v := .ref b10) dX8_arrives_19 fc_8 (by decide) (by decide) bw_1200 (congrArg pr e11) e9 ?_
  refine g_iconst (v := 0) dX8_arrives_22 (by decide) ?_
  obtain ⟨e12, e13, K⟩ := K
  refine g_iald dX8_arrives_23 e12 e13 ?_
  obtain ⟨q14, C15, K⟩ := K
  refine g_callV (M' := mX8_put) (b := a0) (As := [.int x1, .int 7, .int (hI h8 b10 (Int32.toNatClampNeg 0))]) (rest := []) (rc' := rc) (rs' := rs) dX8_arrives_24 bw_1194 bw_1196 bs_38 bw_9 bw_1197 ⟨by decide +kernel, by decide +kernel, show (parseMethodDescriptor mX8_put.1.desc).map (fun d => d.parameters.length) = some 3 by decide +kernel⟩ (by decide) (by decide) (Nat.le_of_ble_eq_true rfl) fc_8 (by decide) rfl e9 C15 (Nat.le_of_eq (Nat.add_zero _)) (Nat.le_of_eq (Nat.add_zero _)) (fun _ _ h => h) ?_
  rintro _ h16 ⟨rfl, K1⟩ -
  replace K := K h16 K1
  show Gm l x mX8_arrives 1 27 [(0, .ref a0), (1, .int x1)] [] h16 rc rs n0 Q X
  exact g_vret dX8_arrives_27 rfl K
theorem dX8_isPeak_0 : decode cX8_isPeak 0 = .ok (.bipush 8, 2) := by decide +kernel
theorem dX8_isPeak_2 : decode cX8_isPeak 2 = .ok (.aload_n 0, 1) := by decide +kernel
theorem dX8_isPeak_3 : decode cX8_isPeak 3 = .ok (.getfield 29, 3) := by decide +kernel
theorem dX8_isPeak_6 : decode cX8_isPeak 6 = .ok (.bipush 7, 2) := by decide +kernel
theorem dX8_isPeak_8 : decode cX8_isPeak 8 = .ok (.iaload, 1) := by decide +kernel
theorem dX8_isPeak_9 : decode cX8_isPeak 9 = .ok (.invokestatic 137, 3) := by decide +kernel
theorem dX8_isPeak_12 : decode cX8_isPeak 12 = .ok (.istore_n 1, 1) := by decide +kernel
theorem dX8_isPeak_13 : decode cX8_isPeak 13 = .ok (.iconst 0, 1) := by decide +kernel
theorem dX8_isPeak_14 : decode cX8_isPeak 14 = .ok (.istore_n 2, 1) := by decide +kernel
theorem dX8_isPeak_15 : decode cX8_isPeak 15 = .ok (.iconst 0, 1) := by decide +kernel
theorem dX8_isPeak_16 : decode cX8_isPeak 16 = .ok (.istore_n 3, 1) := by decide +kernel
theorem dX8_isPeak_17 : decode cX8_isPeak 17 = .ok (.iload_n 3, 1) := by decide +kernel
theorem dX8_isPeak_18 : decode cX8_isPeak 18 = .ok (.iload_n 1, 1) := by decide +kernel
theorem dX8_isPeak_19 : decode cX8_isPeak 19 = .ok (.if_icmp .ge 29, 3) := by decide +kernel
theorem dX8_isPeak_22 : decode cX8_isPeak 22 = .ok (.iload_n 2, 1) := by decide +kernel
theorem dX8_isPeak_23 : decode cX8_isPeak 23 = .ok (.aload_n 0, 1) := by decide +kernel
theorem dX8_isPeak_24 : decode cX8_isPeak 24 = .ok (.getfield 29, 3) := by decide +kernel
theorem dX8_isPeak_27 : decode cX8_isPeak 27 = .ok (.bipush 8, 2) := by decide +kernel
theorem dX8_isPeak_29 : decode cX8_isPeak 29 = .ok (.iload_n 3, 1) := by decide +kernel
theorem dX8_isPeak_30 : decode cX8_isPeak 30 = .ok (.iadd, 1) := by decide +kernel
theorem dX8_isPeak_31 : decode cX8_isPeak 31 = .ok (.iaload, 1) := by decide +kernel
theorem dX8_isPeak_32 : decode cX8_isPeak 32 = .ok (.ifCond .ne 7, 3) := by decide +kernel
theorem dX8_isPeak_35 : decode cX8_isPeak 35 = .ok (.iconst 1, 1) := by decide +kernel
theorem dX8_isPeak_36 : decode cX8_isPeak 36 = .ok (.goto 4, 3) := by decide +kernel
theorem dX8_isPeak_39 : decode cX8_isPeak 39 = .ok (.iconst 0, 1) := by decide +kernel
theorem dX8_isPeak_40 : decode cX8_isPeak 40 = .ok (.iadd, 1) := by decide +kernel
theorem dX8_isPeak_41 : decode cX8_isPeak 41 = .ok (.istore_n 2, 1) := by decide +kernel
theorem dX8_isPeak_42 : decode cX8_isPeak 42 = .ok (.iinc 3 1, 3) := by decide +kernel
theorem dX8_isPeak_45 : decode cX8_isPeak 45 = .ok (.goto (-28), 3) := by decide +kernel
theorem dX8_isPeak_48 : decode cX8_isPeak 48 = .ok (.aload_n 0, 1) := by decide +kernel
theorem dX8_isPeak_49 : decode cX8_isPeak 49 = .ok (.bipush 6, 2) := by decide +kernel
theorem dX8_isPeak_51 : decode cX8_isPeak 51 = .ok (.invokevirtual 218, 3) := by decide +kernel
theorem dX8_isPeak_54 : decode cX8_isPeak 54 = .ok (.ifCond .le 17, 3) := by decide +kernel
theorem dX8_isPeak_57 : decode cX8_isPeak 57 = .ok (.iload_n 2, 1) := by decide +kernel
theorem dX8_isPeak_58 : decode cX8_isPeak 58 = .ok (.aload_n 0, 1) := by decide +kernel
theorem dX8_isPeak_59 : decode cX8_isPeak 59 = .ok (.bipush 6, 2) := by decide +kernel
theorem dX8_isPeak_61 : decode cX8_isPeak 61 = .ok (.invokevirtual 218, 3) := by decide +kernel
theorem dX8_isPeak_64 : decode cX8_isPeak 64 = .ok (.if_icmp .lt 7, 3) := by decide +kernel
theorem dX8_isPeak_67 : decode cX8_isPeak 67 = .ok (.iconst 1, 1) := by decide +kernel
theorem dX8_isPeak_68 : decode cX8_isPeak 68 = .ok (.goto 4, 3) := by decide +kernel
theorem dX8_isPeak_71 : decode cX8_isPeak 71 = .ok (.iconst 0, 1) := by decide +kernel
theorem dX8_isPeak_72 : decode cX8_isPeak 72 = .ok (.ireturn, 1) := by decide +kernel
set_option maxRecDepth 20000 in
set_option maxHeartbeats 4000000 in
theorem vX8_isPeak_0 {l : Launch} {x : CX} {a0 : Nat} {h : PH} {rc rs n0 : Nat} {Q : Option Value → PH → Prop} {X : String → PH → Prop}
    (K : ((hK h a0).1 = 8) ∧ ∃ b2, (hR h a0 2 = some b2) ∧ ((hK h b2).1 = 100) ∧ (vp_in 7 (hK h b2).2) ∧ ∀ (y6 : Int32), y6 = (if (hI h b2 (Int32.toNatClampNeg 7)) < 8 then (hI h b2 (Int32.toNatClampNeg 7)) else 8) → Gm l x mX8_isPeak 1 17 [(0, .ref a0), (1, .int y6), (2, .int 0), (3, .int 0)] [] h rc rs n0 Q X) :
    Gm l x mX8_isPeak 1 0 [(0, .ref a0)] [] h rc rs n0 Q X := by
  refine g_bipush (v := 8) dX8_isPeak_0 (by decide) ?_
  refine g_aload_n dX8_isPeak_2 rfl 0 rfl ?_
  obtain ⟨e1, b2, e3, K⟩ := K
  refine g_get (c := 8) (k := 2) (v := .ref b2) dX8_isPeak_3 fc_8 (by decide) (by decide) bw_1200 (congrArg pr e3) e1 ?_
  refine g_bipush (v := 7) dX8_isPeak_6 (by decide) ?_
  obtain ⟨e4, e5, K⟩ := K
  refine g_iald dX8_isPeak_8 e4 e5 ?_
  refine g_min dX8_isPeak_9 bw_1356 bw_765 bw_14 bw_766 (by decide) (Nat.le_of_ble_eq_true rfl) ?_
  refine g_nmI (fun y6 e7 => ?_)
  replace K := K y6 e7
  refine g_istore_n (lv' := [(0, .ref a0), (1, .int y6)]) dX8_isPeak_12 rfl (by decide) rfl ?_
  refine g_iconst (v := 0) dX8_isPeak_13 (by decide) ?_
  refine g_istore_n (lv' := [(0, .ref a0), (1, .int y6), (2, .int 0)]) dX8_isPeak_14 rfl (by decide) rfl ?_
  refine g_iconst (v := 0) dX8_isPeak_15 (by decide) ?_
  refine g_istore_n (lv' := [(0, .ref a0), (1, .int y6), (2, .int 0), (3, .int 0)]) dX8_isPeak_16 rfl (by decide) rfl ?_
  exact K
set_option maxRecDepth 20000 in
set_option maxHeartbeats 4000000 in
theorem vX8_isPeak_17 {l : Launch} {x : CX} {a0 : Nat} {x1 : Int32} {x2 : Int32} {x3 : Int32} {h : PH} {rc rs n0 : Nat} {Q : Option Value → PH → Prop} {X : String → PH → Prop}
    (K : ((x1 ≤ x3 → ((hK h a0).1 = 8) ∧ ∃ (q2 : Int32 → PH → Prop), CI l x mX8_tells 0 0 0 [.ref a0, .int 6] h q2 ∧ ∀ (r6 : Int32) (h5 : PH), q2 r6 h5 → ((r6 ≤ 0 → ((0 : Int32) = 0 ∨ (0 : Int32) = 1) ∧ Q (some (.int 0)) h5) ∧ (¬ r6 ≤ 0 → ((hK h5 a0).1 = 8) ∧ ∃ (q8 : Int32 → PH → Prop), CI l x mX8_tells 0 0 0 [.ref a0, .int 6] h5 q8 ∧ ∀ (r12 : Int32) (h11 : PH), q8 r12 h11 → (((if x2 < r12 then 0 else 1 : Int32) : Int32) = 0 ∨ ((if x2 < r12 then 0 else 1 : Int32) : Int32) = 1) ∧ Q (some (.int (if x2 < r12 then 0 else 1 : Int32))) h11))) ∧ (¬ x1 ≤ x3 → ((hK h a0).1 = 8) ∧ ∃ b15, (hR h a0 2 = some b15) ∧ ((hK h b15).1 = 100) ∧ (vp_in (8 + x3) (hK h b15).2) ∧ ∀ (y20 : Int32), y20 = (x2 + (if (hI h b15 (8 + x3).toNatClampNeg) = 0 then 1 else 0 : Int32)) → Gm l x mX8_isPeak 1 17 [(0, .ref a0), (1, .int x1), (2, .int y20), (3, .int (x3 + 1))] [] h rc rs n0 Q X))) :
    Gm l x mX8_isPeak 1 17 [(0, .ref a0), (1, .int x1), (2, .int x2), (3, .int x3)] [] h rc rs n0 Q X := by
  refine g_iload_n dX8_isPeak_17 rfl 3 rfl ?_
  refine g_iload_n dX8_isPeak_18 rfl 1 rfl ?_
  refine g_icmp_ge (tgt := 48) dX8_isPeak_19 (by decide) (fun c1 => ?_) (fun c1 => ?_)
  · replace K := K.1 c1
    refine g_aload_n dX8_isPeak_48 rfl 0 rfl ?_
    refine g_bipush (v := 6) dX8_isPeak_49 (by decide) ?_
    obtain ⟨e4, K⟩ := K
    obtain ⟨q2, C3, K⟩ := K
    refine g_callV (M' := mX8_tells) (b := a0) (As := [.int 6]) (rest := []) (rc' := rc) (rs' := rs) dX8_isPeak_51 bw_1186 bw_1188 bs_36 bw_9 bw_1189 ⟨by decide +kernel, by decide +kernel, show (parseMethodDescriptor mX8_tells.1.desc).map (fun d => d.parameters.length) = some 1 by decide +kernel⟩ (by decide) (by decide) (Nat.le_of_ble_eq_true rfl) fc_8 (by decide) rfl e4 C3 (Nat.le_of_eq (Nat.add_zero _)) (Nat.le_of_eq (Nat.add_zero _)) (fun _ _ h => h) ?_
    rintro _ h5 ⟨r6, rfl, K1⟩ -
    replace K := K r6 h5 K1
    show Gm l x mX8_isPeak 1 54 [(0, .ref a0), (1, .int x1), (2, .int x2), (3, .int x3)] [.int r6] h5 rc rs n0 Q X
    refine g_if_le (tgt := 71) dX8_isPeak_54 (by decide) (fun c7 => ?_) (fun c7 => ?_)
    · replace K := K.1 c7
      refine g_iconst (v := 0) dX8_isPeak_71 (by decide) ?_
      exact g_zret dX8_isPeak_72 rfl K.1 K.2
    · replace K := K.2 c7
      refine g_iload_n dX8_isPeak_57 rfl 2 rfl ?_
      refine g_aload_n dX8_isPeak_58 rfl 0 rfl ?_
      refine g_bipush (v := 6) dX8_isPeak_59 (by decide) ?_
      obtain ⟨e10, K⟩ := K
      obtain ⟨q8, C9, K⟩ := K
      refine g_callV (M' := mX8_tells) (b := a0) (As := [.int 6]) (rest := [.int x2]) (rc' := rc) (rs' := rs) dX8_isPeak_61 bw_1186 bw_1188 bs_36 bw_9 bw_1189 ⟨by decide +kernel, by decide +kernel, show (parseMethodDescriptor mX8_tells.1.desc).map (fun d => d.parameters.length) = some 1 by decide +kernel⟩ (by decide) (by decide) (Nat.le_of_ble_eq_true rfl) fc_8 (by decide) rfl e10 C9 (Nat.le_of_eq (Nat.add_zero _)) (Nat.le_of_eq (Nat.add_zero _)) (fun _ _ h => h) ?_
      rintro _ h11 ⟨r12, rfl, K1⟩ -
      replace K := K r12 h11 K1
      show Gm l x mX8_isPeak 1 64 [(0, .ref a0), (1, .int x1), (2, .int x2), (3, .int x3)] [.int r12, .int x2] h11 rc rs n0 Q X
      have KJ : Gm l x mX8_isPeak 1 72 [(0, .ref a0), (1, .int x1), (2, .int x2), (3, .int x3)] [.int (if x2 < r12 then 0 else 1 : Int32)] h11 rc rs n0 Q X := by
        exact g_zret dX8_isPeak_72 rfl K.1 K.2
      refine g_icmp_lt (tgt := 71) dX8_isPeak_64 (by decide) (fun c13 => ?_) (fun c13 => ?_)
      · refine g_iconst (v := 0) dX8_isPeak_71 (by decide) ?_
        first | (simp only [if_pos c13] at KJ; exact KJ) | (simp only [if_pos c13, ite_true, ite_false, eq_self] at KJ; exact KJ) | (simp only [if_pos c13] at KJ ⊢; exact KJ) | exact KJ
      · refine g_iconst (v := 1) dX8_isPeak_67 (by decide) ?_
        refine g_goto (tgt := 72) dX8_isPeak_68 (by decide) ?_
        first | (simp only [if_neg c13] at KJ; exact KJ) | (simp only [if_neg c13, ite_true, ite_false, eq_self] at KJ; exact KJ) | (simp only [if_neg c13] at KJ ⊢; exact KJ) | exact KJ
  · replace K := K.2 c1
    refine g_iload_n dX8_isPeak_22 rfl 2 rfl ?_
    refine g_aload_n dX8_isPeak_23 rfl 0 rfl ?_
    obtain ⟨e14, b15, e16, K⟩ := K
    refine g_get (c := 8) (k := 2) (v := .ref b15) dX8_isPeak_24 fc_8 (by decide) (by decide) bw_1200 (congrArg pr e16) e14 ?_
    refine g_bipush (v := 8) dX8_isPeak_27 (by decide) ?_
    refine g_iload_n dX8_isPeak_29 rfl 3 rfl ?_
    refine g_iadd dX8_isPeak_30 ?_
    obtain ⟨e17, e18, K⟩ := K
    refine g_iald dX8_isPeak_31 e17 e18 ?_
    have KJ : Gm l x mX8_isPeak 1 40 [(0, .ref a0), (1, .int x1), (2, .int x2), (3, .int x3)] [.int (if (hI h b15 (8 + x3).toNatClampNeg) = 0 then 1 else 0 : Int32), .int x2] h rc rs n0 Q X := by
      refine g_iadd dX8_isPeak_40 ?_
      refine g_nmI (fun y20 e21 => ?_)
      replace K := K y20 e21
      refine g_istore_n (lv' := [(0, .ref a0), (1, .int x1), (2, .int y20), (3, .int x3)]) dX8_isPeak_41 rfl (by decide) rfl ?_
      refine g_iinc (v := (x3 + 1)) (lv' := [(0, .ref a0), (1, .int x1), (2, .int y20), (3, .int (x3 + 1))]) dX8_isPeak_42 3 rfl (by rfl) (by decide) rfl ?_
      refine g_goto (tgt := 17) dX8_isPeak_45 (by decide) ?_
      exact K
    refine g_if_ne (tgt := 39) dX8_isPeak_32 (by decide) (fun c19 => ?_) (fun c19 => ?_)
    · refine g_iconst (v := 0) dX8_isPeak_39 (by decide) ?_
      first | (simp only [if_neg c19] at KJ; exact KJ) | (simp only [if_neg c19, ite_true, ite_false, eq_self] at KJ; exact KJ) | (simp only [if_neg c19] at KJ ⊢; exact KJ) | exact KJ
    · refine g_iconst (v := 1) dX8_isPeak_35 (by decide) ?_
      refine g_goto (tgt := 40) dX8_isPeak_36 (by decide) ?_
      first | (simp only [if_pos c19] at KJ; exact KJ) | (simp only [if_pos c19, ite_true, ite_false, eq_self] at KJ; exact KJ) | (simp only [if_pos c19] at KJ ⊢; exact KJ) | exact KJ
theorem dX8_isLate_0 : decode cX8_isLate 0 = .ok (.aload_n 0, 1) := by decide +kernel
theorem dX8_isLate_1 : decode cX8_isLate 1 = .ok (.getfield 29, 3) := by decide +kernel
theorem dX8_isLate_4 : decode cX8_isLate 4 = .ok (.iconst 3, 1) := by decide +kernel
theorem dX8_isLate_5 : decode cX8_isLate 5 = .ok (.iaload, 1) := by decide +kernel
theorem dX8_isLate_6 : decode cX8_isLate 6 = .ok (.ifCond .le 45, 3) := by decide +kernel
theorem dX8_isLate_9 : decode cX8_isLate 9 = .ok (.aload_n 0, 1) := by decide +kernel
theorem dX8_isLate_10 : decode cX8_isLate 10 = .ok (.getfield 29, 3) := by decide +kernel
theorem dX8_isLate_13 : decode cX8_isLate 13 = .ok (.iconst 2, 1) := by decide +kernel
theorem dX8_isLate_14 : decode cX8_isLate 14 = .ok (.iaload, 1) := by decide +kernel
theorem dX8_isLate_15 : decode cX8_isLate 15 = .ok (.ifCond .eq 36, 3) := by decide +kernel
theorem dX8_isLate_18 : decode cX8_isLate 18 = .ok (.aload_n 0, 1) := by decide +kernel
theorem dX8_isLate_19 : decode cX8_isLate 19 = .ok (.iload_n 1, 1) := by decide +kernel
theorem dX8_isLate_20 : decode cX8_isLate 20 = .ok (.iconst 2, 1) := by decide +kernel
theorem dX8_isLate_21 : decode cX8_isLate 21 = .ok (.invokevirtual 238, 3) := by decide +kernel
theorem dX8_isLate_24 : decode cX8_isLate 24 = .ok (.ifCond .ne 27, 3) := by decide +kernel
theorem dX8_isLate_27 : decode cX8_isLate 27 = .ok (.aload_n 0, 1) := by decide +kernel
theorem dX8_isLate_28 : decode cX8_isLate 28 = .ok (.iload_n 1, 1) := by decide +kernel
theorem dX8_isLate_29 : decode cX8_isLate 29 = .ok (.iconst 0, 1) := by decide +kernel
theorem dX8_isLate_30 : decode cX8_isLate 30 = .ok (.invokevirtual 238, 3) := by decide +kernel
theorem dX8_isLate_33 : decode cX8_isLate 33 = .ok (.iload_n 2, 1) := by decide +kernel
theorem dX8_isLate_34 : decode cX8_isLate 34 = .ok (.isub, 1) := by decide +kernel
theorem dX8_isLate_35 : decode cX8_isLate 35 = .ok (.invokestatic 313, 3) := by decide +kernel
theorem dX8_isLate_38 : decode cX8_isLate 38 = .ok (.aload_n 0, 1) := by decide +kernel
theorem dX8_isLate_39 : decode cX8_isLate 39 = .ok (.getfield 29, 3) := by decide +kernel
theorem dX8_isLate_42 : decode cX8_isLate 42 = .ok (.iconst 3, 1) := by decide +kernel
theorem dX8_isLate_43 : decode cX8_isLate 43 = .ok (.iaload, 1) := by decide +kernel
theorem dX8_isLate_44 : decode cX8_isLate 44 = .ok (.if_icmp .le 7, 3) := by decide +kernel
theorem dX8_isLate_47 : decode cX8_isLate 47 = .ok (.iconst 1, 1) := by decide +kernel
theorem dX8_isLate_48 : decode cX8_isLate 48 = .ok (.goto 4, 3) := by decide +kernel
theorem dX8_isLate_51 : decode cX8_isLate 51 = .ok (.iconst 0, 1) := by decide +kernel
theorem dX8_isLate_52 : decode cX8_isLate 52 = .ok (.ireturn, 1) := by decide +kernel
set_option maxRecDepth 20000 in
set_option maxHeartbeats 4000000 in
theorem vX8_isLate_0 {l : Launch} {x : CX} {a0 : Nat} {x1 : Int32} {x2 : Int32} {h : PH} {rc rs n0 : Nat} {Q : Option Value → PH → Prop} {X : String → PH → Prop}
    (K : ((hK h a0).1 = 8) ∧ ∃ b2, (hR h a0 2 = some b2) ∧ ((hK h b2).1 = 100) ∧ (vp_in 3 (hK h b2).2) ∧ (((hI h b2 (Int32.toNatClampNeg 3)) ≤ 0 → ((0 : Int32) = 0 ∨ (0 : Int32) = 1) ∧ Q (some (.int 0)) h) ∧ (¬ (hI h b2 (Int32.toNatClampNeg 3)) ≤ 0 → (vp_in 2 (hK h b2).2) ∧ (((hI h b2 (Int32.toNatClampNeg 2)) = 0 → ((0 : Int32) = 0 ∨ (0 : Int32) = 1) ∧ Q (some (.int 0)) h) ∧ (¬ (hI h b2 (Int32.toNatClampNeg 2)) = 0 → ∃ (q9 : Int32 → PH → Prop), CI l x mX8_carOf 0 0 0 [.ref a0, .int x1, .int 2] h q9 ∧ ∀ (r12 : Int32) (h11 : PH), q9 r12 h11 → ((¬ r12 = 0 → ((0 : Int32) = 0 ∨ (0 : Int32) = 1) ∧ Q (some (.int 0)) h11) ∧ (r12 = 0 → ((hK h11 a0).1 = 8) ∧ ∃ (q14 : Int32 → PH → Prop), CI l x mX8_carOf 0 0 0 [.ref a0, .int x1, .int 0] h11 q14 ∧ ∀ (r18 : Int32) (h17 : PH), q14 r18 h17 → ((hK h17 a0).1 = 8) ∧ ∃ b20, (hR h17 a0 2 = some b20) ∧ ((hK h17 b20).1 = 100) ∧ (vp_in 3 (hK h17 b20).2) ∧ (((if 0 ≤ (r18 - x2) then (r18 - x2) else 0 - (r18 - x2)) ≤ (hI h17 b20 (Int32.toNatClampNeg 3)) → ((0 : Int32) = 0 ∨ (0 : Int32) = 1) ∧ Q (some (.int 0)) h17) ∧ (¬ (if 0 ≤ (r18 - x2) then (r18 - x2) else 0 - (r18 - x2)) ≤ (hI h17 b20 (Int32.toNatClampNeg 3)) → ((1 : Int32) = 0 ∨ (1 : Int32) = 1) ∧ Q (some (.int 1)) h17))))))))) :
    Gm l x mX8_isLate 1 0 [(0, .ref a0), (1, .int x1), (2, .int x2)] [] h rc rs n0 Q X := by
  refine g_aload_n dX8_isLate_0 rfl 0 rfl ?_
  obtain ⟨e1, b2, e3, K⟩ := K
  refine g_get (c := 8) (k := 2) (v := .ref b2) dX8_isLate_1 fc_8 (by decide) (by decide) bw_1200 (congrArg pr e3) e1 ?_
  refine g_iconst (v := 3) dX8_isLate_4 (by decide) ?_
  obtain ⟨e4, e5, K⟩ := K
  refine g_iald dX8_isLate_5 e4 e5 ?_
  refine g_if_le (tgt := 51) dX8_isLate_6 (by decide) (fun c6 => ?_) (fun c6 => ?_)
  · replace K := K.1 c6
    refine g_iconst (v := 0) dX8_isLate_51 (by decide) ?_
    exact g_zret dX8_isLate_52 rfl K.1 K.2
  · replace K := K.2 c6
    refine g_aload_n dX8_isLate_9 rfl 0 rfl ?_
    refine g_get (c := 8) (k := 2) (v := .ref b2) dX8_isLate_10 fc_8 (by decide) (by decide) bw_1200 (congrArg pr e3) e1 ?_
    refine g_iconst (v := 2) dX8_isLate_13 (by decide) ?_
    obtain ⟨e7, K⟩ := K
    refine g_iald dX8_isLate_14 e4 e7 ?_
    refine g_if_eq (tgt := 51) dX8_isLate_15 (by decide) (fun c8 => ?_) (fun c8 => ?_)
    · replace K := K.1 c8
      refine g_iconst (v := 0) dX8_isLate_51 (by decide) ?_
      exact g_zret dX8_isLate_52 rfl K.1 K.2
    · replace K := K.2 c8
      refine g_aload_n dX8_isLate_18 rfl 0 rfl ?_
      refine g_iload_n dX8_isLate_19 rfl 1 rfl ?_
      refine g_iconst (v := 2) dX8_isLate_20 (by decide) ?_
      obtain ⟨q9, C10, K⟩ := K
      refine g_callV (M' := mX8_carOf) (b := a0) (As := [.int x1, .int 2]) (rest := []) (rc' := rc) (rs' := rs) dX8_isLate_21 bw_1476 bw_1478 bs_67 bw_9 bw_1479 ⟨by decide +kernel, by decide +kernel, show (parseMethodDescriptor mX8_carOf.1.desc).map (fun d => d.parameters.length) = some 2 by decide +kernel⟩ (by decide) (by decide) (Nat.le_of_ble_eq_true rfl) fc_8 (by decide) rfl e1 C10 (Nat.le_of_eq (Nat.add_zero _)) (Nat.le_of_eq (Nat.add_zero _)) (fun _ _ h => h) ?_
      rintro _ h11 ⟨r12, rfl, K1⟩ -
      replace K := K r12 h11 K1
      show Gm l x mX8_isLate 1 24 [(0, .ref a0), (1, .int x1), (2, .int x2)] [.int r12] h11 rc rs n0 Q X
      refine g_if_ne (tgt := 51) dX8_isLate_24 (by decide) (fun c13 => ?_) (fun c13 => ?_)
      · replace K := K.1 c13
        refine g_iconst (v := 0) dX8_isLate_51 (by decide) ?_
        exact g_zret dX8_isLate_52 rfl K.1 K.2
      · replace K := K.2 c13
        refine g_aload_n dX8_isLate_27 rfl 0 rfl ?_
        refine g_iload_n dX8_isLate_28 rfl 1 rfl ?_
        refine g_iconst (v := 0) dX8_isLate_29 (by decide) ?_
        obtain ⟨e16, K⟩ := K
        obtain ⟨q14, C15, K⟩ := K
        refine g_callV (M' := mX8_carOf) (b := a0) (As := [.int x1, .int 0]) (rest := []) (rc' := rc) (rs' := rs) dX8_isLate_30 bw_1476 bw_1478 bs_67 bw_9 bw_1479 ⟨by decide +kernel, by decide +kernel, show (parseMethodDescriptor mX8_carOf.1.desc).map (fun d => d.parameters.length) = some 2 by decide +kernel⟩ (by decide) (by decide) (Nat.le_of_ble_eq_true rfl) fc_8 (by decide) rfl e16 C15 (Nat.le_of_eq (Nat.add_zero _)) (Nat.le_of_eq (Nat.add_zero _)) (fun _ _ h => h) ?_
        rintro _ h17 ⟨r18, rfl, K1⟩ -
        replace K := K r18 h17 K1
        show Gm l x mX8_isLate 1 33 [(0, .ref a0), (1, .int x1), (2, .int x2)] [.int r18] h17 rc rs n0 Q X
        refine g_iload_n dX8_isLate_33 rfl 2 rfl ?_
        refine g_isub dX8_isLate_34 ?_
        refine g_abs dX8_isLate_35 bw_1480 bw_542 bw_14 bw_543 (by decide) (Nat.le_of_ble_eq_true rfl) ?_
        refine g_aload_n dX8_isLate_38 rfl 0 rfl ?_
        obtain ⟨e19, b20, e21, K⟩ := K
        refine g_get (c := 8) (k := 2) (v := .ref b20) dX8_isLate_39 fc_8 (by decide) (by decide) bw_1200 (congrArg pr e21) e19 ?_
        refine g_iconst (v := 3) dX8_isLate_42 (by decide) ?_
        obtain ⟨e22, e23, K⟩ := K
        refine g_iald dX8_isLate_43 e22 e23 ?_
        refine g_icmp_le (tgt := 51) dX8_isLate_44 (by decide) (fun c24 => ?_) (fun c24 => ?_)
        · replace K := K.1 c24
          refine g_iconst (v := 0) dX8_isLate_51 (by decide) ?_
          exact g_zret dX8_isLate_52 rfl K.1 K.2
        · replace K := K.2 c24
          refine g_iconst (v := 1) dX8_isLate_47 (by decide) ?_
          refine g_goto (tgt := 52) dX8_isLate_48 (by decide) ?_
          exact g_zret dX8_isLate_52 rfl K.1 K.2
theorem dX8_comes_0 : decode cX8_comes 0 = .ok (.aload_n 0, 1) := by decide +kernel
theorem dX8_comes_1 : decode cX8_comes 1 = .ok (.iload_n 1, 1) := by decide +kernel
theorem dX8_comes_2 : decode cX8_comes 2 = .ok (.iconst 4, 1) := by decide +kernel
theorem dX8_comes_3 : decode cX8_comes 3 = .ok (.iconst 1, 1) := by decide +kernel
theorem dX8_comes_4 : decode cX8_comes 4 = .ok (.invokevirtual 225, 3) := by decide +kernel
theorem dX8_comes_7 : decode cX8_comes 7 = .ok (.aload_n 0, 1) := by decide +kernel
theorem dX8_comes_8 : decode cX8_comes 8 = .ok (.iload_n 1, 1) := by decide +kernel
theorem dX8_comes_9 : decode cX8_comes 9 = .ok (.iconst 5, 1) := by decide +kernel
theorem dX8_comes_10 : decode cX8_comes 10 = .ok (.aload_n 0, 1) := by decide +kernel
theorem dX8_comes_11 : decode cX8_comes 11 = .ok (.iload_n 1, 1) := by decide +kernel
theorem dX8_comes_12 : decode cX8_comes 12 = .ok (.iconst 2, 1) := by decide +kernel
theorem dX8_comes_13 : decode cX8_comes 13 = .ok (.invokevirtual 228, 3) := by decide +kernel
theorem dX8_comes_16 : decode cX8_comes 16 = .ok (.invokevirtual 225, 3) := by decide +kernel
theorem dX8_comes_19 : decode cX8_comes 19 = .ok (.aload_n 0, 1) := by decide +kernel
theorem dX8_comes_20 : decode cX8_comes 20 = .ok (.getfield 29, 3) := by decide +kernel
theorem dX8_comes_23 : decode cX8_comes 23 = .ok (.bipush 7, 2) := by decide +kernel
theorem dX8_comes_25 : decode cX8_comes 25 = .ok (.iaload, 1) := by decide +kernel
theorem dX8_comes_26 : decode cX8_comes 26 = .ok (.bipush 8, 2) := by decide +kernel
theorem dX8_comes_28 : decode cX8_comes 28 = .ok (.if_icmp .lt 37, 3) := by decide +kernel
theorem dX8_comes_31 : decode cX8_comes 31 = .ok (.iconst 1, 1) := by decide +kernel
theorem dX8_comes_32 : decode cX8_comes 32 = .ok (.istore_n 2, 1) := by decide +kernel
theorem dX8_comes_33 : decode cX8_comes 33 = .ok (.iload_n 2, 1) := by decide +kernel
theorem dX8_comes_34 : decode cX8_comes 34 = .ok (.bipush 8, 2) := by decide +kernel
theorem dX8_comes_36 : decode cX8_comes 36 = .ok (.if_icmp .ge 29, 3) := by decide +kernel
theorem dX8_comes_39 : decode cX8_comes 39 = .ok (.aload_n 0, 1) := by decide +kernel
theorem dX8_comes_40 : decode cX8_comes 40 = .ok (.getfield 29, 3) := by decide +kernel
theorem dX8_comes_43 : decode cX8_comes 43 = .ok (.bipush 8, 2) := by decide +kernel
theorem dX8_comes_45 : decode cX8_comes 45 = .ok (.iload_n 2, 1) := by decide +kernel
theorem dX8_comes_46 : decode cX8_comes 46 = .ok (.iadd, 1) := by decide +kernel
theorem dX8_comes_47 : decode cX8_comes 47 = .ok (.iconst 1, 1) := by decide +kernel
theorem dX8_comes_48 : decode cX8_comes 48 = .ok (.isub, 1) := by decide +kernel
theorem dX8_comes_49 : decode cX8_comes 49 = .ok (.aload_n 0, 1) := by decide +kernel
theorem dX8_comes_50 : decode cX8_comes 50 = .ok (.getfield 29, 3) := by decide +kernel
theorem dX8_comes_53 : decode cX8_comes 53 = .ok (.bipush 8, 2) := by decide +kernel
theorem dX8_comes_55 : decode cX8_comes 55 = .ok (.iload_n 2, 1) := by decide +kernel
theorem dX8_comes_56 : decode cX8_comes 56 = .ok (.iadd, 1) := by decide +kernel
theorem dX8_comes_57 : decode cX8_comes 57 = .ok (.iaload, 1) := by decide +kernel
theorem dX8_comes_58 : decode cX8_comes 58 = .ok (.iastore, 1) := by decide +kernel
theorem dX8_comes_59 : decode cX8_comes 59 = .ok (.iinc 2 1, 3) := by decide +kernel
theorem dX8_comes_62 : decode cX8_comes 62 = .ok (.goto (-29), 3) := by decide +kernel
theorem dX8_comes_65 : decode cX8_comes 65 = .ok (.aload_n 0, 1) := by decide +kernel
theorem dX8_comes_66 : decode cX8_comes 66 = .ok (.getfield 29, 3) := by decide +kernel
theorem dX8_comes_69 : decode cX8_comes 69 = .ok (.bipush 8, 2) := by decide +kernel
theorem dX8_comes_71 : decode cX8_comes 71 = .ok (.bipush 7, 2) := by decide +kernel
theorem dX8_comes_73 : decode cX8_comes 73 = .ok (.aload_n 0, 1) := by decide +kernel
theorem dX8_comes_74 : decode cX8_comes 74 = .ok (.getfield 29, 3) := by decide +kernel
theorem dX8_comes_77 : decode cX8_comes 77 = .ok (.bipush 7, 2) := by decide +kernel
theorem dX8_comes_79 : decode cX8_comes 79 = .ok (.iaload, 1) := by decide +kernel
theorem dX8_comes_80 : decode cX8_comes 80 = .ok (.invokestatic 137, 3) := by decide +kernel
theorem dX8_comes_83 : decode cX8_comes 83 = .ok (.iadd, 1) := by decide +kernel
theorem dX8_comes_84 : decode cX8_comes 84 = .ok (.aload_n 0, 1) := by decide +kernel
theorem dX8_comes_85 : decode cX8_comes 85 = .ok (.iload_n 1, 1) := by decide +kernel
theorem dX8_comes_86 : decode cX8_comes 86 = .ok (.iconst 2, 1) := by decide +kernel
theorem dX8_comes_87 : decode cX8_comes 87 = .ok (.invokevirtual 228, 3) := by decide +kernel
theorem dX8_comes_90 : decode cX8_comes 90 = .ok (.iastore, 1) := by decide +kernel
theorem dX8_comes_91 : decode cX8_comes 91 = .ok (.aload_n 0, 1) := by decide +kernel
theorem dX8_comes_92 : decode cX8_comes 92 = .ok (.getfield 29, 3) := by decide +kernel
theorem dX8_comes_95 : decode cX8_comes 95 = .ok (.bipush 7, 2) := by decide +kernel
theorem dX8_comes_97 : decode cX8_comes 97 = .ok (.dup2, 1) := by decide +kernel
theorem dX8_comes_98 : decode cX8_comes 98 = .ok (.iaload, 1) := by decide +kernel
theorem dX8_comes_99 : decode cX8_comes 99 = .ok (.iconst 1, 1) := by decide +kernel
theorem dX8_comes_100 : decode cX8_comes 100 = .ok (.iadd, 1) := by decide +kernel
theorem dX8_comes_101 : decode cX8_comes 101 = .ok (.iastore, 1) := by decide +kernel
theorem dX8_comes_102 : decode cX8_comes 102 = .ok (.return_, 1) := by decide +kernel
set_option maxRecDepth 20000 in
set_option maxHeartbeats 4000000 in
theorem vX8_comes_0 {l : Launch} {x : CX} {a0 : Nat} {x1 : Int32} {h : PH} {rc rs n0 : Nat} {Q : Option Value → PH → Prop} {X : String → PH → Prop}
    (K : ((hK h a0).1 = 8) ∧ ∃ (q1 : PH → Prop), CV l x mX8_put 0 0 0 [.ref a0, .int x1, .int 4, .int 1] h q1 ∧ ∀ (h4 : PH), q1 h4 → ((hK h4 a0).1 = 8) ∧ ∃ (q5 : Int32 → PH → Prop), CI l x mX8_of 0 0 0 [.ref a0, .int x1, .int 2] h4 q5 ∧ ∀ (r9 : Int32) (h8 : PH), q5 r9 h8 → ((hK h8 a0).1 = 8) ∧ ∃ (q10 : PH → Prop), CV l x mX8_put 0 0 0 [.ref a0, .int x1, .int 5, .int r9] h8 q10 ∧ ∀ (h13 : PH), q10 h13 → ((hK h13 a0).1 = 8) ∧ ∃ b15, (hR h13 a0 2 = some b15) ∧ ((hK h13 b15).1 = 100) ∧ (vp_in 7 (hK h13 b15).2) ∧ (((hI h13 b15 (Int32.toNatClampNeg 7)) < 8 → (vp_in 7 (hK h13 b15).2) ∧ ∃ (q21 : Int32 → PH → Prop), CI l x mX8_of 0 0 0 [.ref a0, .int x1, .int 2] h13 q21 ∧ ∀ (r24 : Int32) (h23 : PH), q21 r24 h23 → ((hK h23 b15).1 = 100) ∧ (vp_in (8 + (if (hI h13 b15 (Int32.toNatClampNeg 7)) < 7 then (hI h13 b15 (Int32.toNatClampNeg 7)) else 7)) (hK h23 b15).2) ∧ ((hK h23 a0).1 = 8) ∧ ∃ b28, (hR h23 a0 2 = some b28) ∧ ((hK h23 b28).1 = 100) ∧ (vp_in 7 (hK h23 b28).2) ∧ (vp_in 7 (hK h23 b28).2) ∧ Q none (sI (sI h23 b15 (8 + (if (hI h13 b15 (Int32.toNatClampNeg 7)) < 7 then (hI h13 b15 (Int32.toNatClampNeg 7)) else 7)).toNatClampNeg r24) b28 (Int32.toNatClampNeg 7) ((hI (sI h23 b15 (8 + (if (hI h13 b15 (Int32.toNatClampNeg 7)) < 7 then (hI h13 b15 (Int32.toNatClampNeg 7)) else 7)).toNatClampNeg r24) b28 (Int32.toNatClampNeg 7)) + 1))) ∧ (¬ (hI h13 b15 (Int32.toNatClampNeg 7)) < 8 → Gm l x mX8_comes 1 33 [(0, .ref a0), (1, .int x1), (2, .int 1)] [] h13 rc rs n0 Q X))) :
    Gm l x mX8_comes 1 0 [(0, .ref a0), (1, .int x1)] [] h rc rs n0 Q X := by
  refine g_aload_n dX8_comes_0 rfl 0 rfl ?_
  refine g_iload_n dX8_comes_1 rfl 1 rfl ?_
  refine g_iconst (v := 4) dX8_comes_2 (by decide) ?_
  refine g_iconst (v := 1) dX8_comes_3 (by decide) ?_
  obtain ⟨e3, K⟩ := K
  obtain ⟨q1, C2, K⟩ := K
  refine g_callV (M' := mX8_put) (b := a0) (As := [.int x1, .int 4, .int 1]) (rest := []) (rc' := rc) (rs' := rs) dX8_comes_4 bw_1194 bw_1196 bs_38 bw_9 bw_1197 ⟨by decide +kernel, by decide +kernel, show (parseMethodDescriptor mX8_put.1.desc).map (fun d => d.parameters.length) = some 3 by decide +kernel⟩ (by decide) (by decide) (Nat.le_of_ble_eq_true rfl) fc_8 (by decide) rfl e3 C2 (Nat.le_of_eq (Nat.add_zero _)) (Nat.le_of_eq (Nat.add_zero _)) (fun _ _ h => h) ?_
  rintro _ h4 ⟨rfl, K1⟩ -
  replace K := K h4 K1
  show Gm l x mX8_comes 1 7 [(0, .ref a0), (1, .int x1)] [] h4 rc rs n0 Q X
  refine g_aload_n dX8_comes_7 rfl 0 rfl ?_
  refine g_iload_n dX8_comes_8 rfl 1 rfl ?_
  refine g_iconst (v := 5) dX8_comes_9 (by decide) ?_
  refine g_aload_n dX8_comes_10 rfl 0 rfl ?_
  refine g_iload_n dX8_comes_11 rfl 1 rfl ?_
  refine g_iconst (v := 2) dX8_comes_12 (by decide) ?_
  obtain ⟨e7, K⟩ := K
  obtain ⟨q5, C6, K⟩ := K
  refine g_callV (M' := mX8_of) (b := a0) (As := [.int x1, .int 2]) (rest := [.int 5, .int x1, .ref a0]) (rc' := rc) (rs' := rs) dX8_comes_13 bw_1413 bw_1415 bs_52 bw_9 bw_1416 ⟨by decide +kernel, by decide +kernel, show (parseMethodDescriptor mX8_of.1.desc).map (fun d => d.parameters.length) = some 2 by decide +kernel⟩ (by decide) (by decide) (Nat.le_of_ble_eq_true rfl) fc_8 (by decide) rfl e7 C6 (Nat.le_of_eq (Nat.add_zero _)) (Nat.le_of_eq (Nat.add_zero _)) (fun _ _ h => h) ?_
  rintro _ h8 ⟨r9, rfl, K1⟩ -
  replace K := K r9 h8 K1
  show Gm l x mX8_comes 1 16 [(0, .ref a0), (1, .int x1)] [.int r9, .int 5, .int x1, .ref a0] h8 rc rs n0 Q X
  obtain ⟨e12, K⟩ := K
  obtain ⟨q10, C11, K⟩ := K
  refine g_callV (M' := mX8_put) (b := a0) (As := [.int x1, .int 5, .int r9]) (rest := []) (rc' := rc) (rs' := rs) dX8_comes_16 bw_1194 bw_1196 bs_38 bw_9 bw_1197 ⟨by decide +kernel, by decide +kernel, show (parseMethodDescriptor mX8_put.1.desc).map (fun d => d.parameters.length) = some 3 by decide +kernel⟩ (by decide) (by decide) (Nat.le_of_ble_eq_true rfl) fc_8 (by decide) rfl e12 C11 (Nat.le_of_eq (Nat.add_zero _)) (Nat.le_of_eq (Nat.add_zero _)) (fun _ _ h => h) ?_
  rintro _ h13 ⟨rfl, K1⟩ -
  replace K := K h13 K1
  show Gm l x mX8_comes 1 19 [(0, .ref a0), (1, .int x1)] [] h13 rc rs n0 Q X
  refine g_aload_n dX8_comes_19 rfl 0 rfl ?_
  obtain ⟨e14, b15, e16, K⟩ := K
  refine g_get (c := 8) (k := 2) (v := .ref b15) dX8_comes_20 fc_8 (by decide) (by decide) bw_1200 (congrArg pr e16) e14 ?_
  refine g_bipush (v := 7) dX8_comes_23 (by decide) ?_
  obtain ⟨e17, e18, K⟩ := K
  refine g_iald dX8_comes_25 e17 e18 ?_
  refine g_bipush (v := 8) dX8_comes_26 (by decide) ?_
  refine g_icmp_lt (tgt := 65) dX8_comes_28 (by decide) (fun c19 => ?_) (fun c19 => ?_)
  · replace K := K.1 c19
    refine g_aload_n dX8_comes_65 rfl 0 rfl ?_
    refine g_get (c := 8) (k := 2) (v := .ref b15) dX8_comes_66 fc_8 (by decide) (by decide) bw_1200 (congrArg pr e16) e14 ?_
    refine g_bipush (v := 8) dX8_comes_69 (by decide) ?_
    refine g_bipush (v := 7) dX8_comes_71 (by decide) ?_
    refine g_aload_n dX8_comes_73 rfl 0 rfl ?_
    refine g_get (c := 8) (k := 2) (v := .ref b15) dX8_comes_74 fc_8 (by decide) (by decide) bw_1200 (congrArg pr e16) e14 ?_
    refine g_bipush (v := 7) dX8_comes_77 (by decide) ?_
    obtain ⟨e20, K⟩ := K
    refine g_iald dX8_comes_79 e17 e20 ?_
    refine g_min dX8_comes_80 bw_1356 bw_765 bw_14 bw_766 (by decide) (Nat.le_of_ble_eq_true rfl) ?_
    refine g_iadd dX8_comes_83 ?_
    refine g_aload_n dX8_comes_84 rfl 0 rfl ?_
    refine g_iload_n dX8_comes_85 rfl 1 rfl ?_
    refine g_iconst (v := 2) dX8_comes_86 (by decide) ?_
    obtain ⟨q21, C22, K⟩ := K
    refine g_callV (M' := mX8_of) (b := a0) (As := [.int x1, .int 2]) (rest := [.int (8 + (if (hI h13 b15 (Int32.toNatClampNeg 7)) < 7 then (hI h13 b15 (Int32.toNatClampNeg 7)) else 7)), .ref b15]) (rc' := rc) (rs' := rs) dX8_comes_87 bw_1413 bw_1415 bs_52 bw_9 bw_1416 ⟨by decide +kernel, by decide +kernel, show (parseMethodDescriptor mX8_of.1.desc).map (fun d => d.parameters.length) = some 2 by decide +kernel⟩ (by decide) (by decide) (Nat.le_of_ble_eq_true rfl) fc_8 (by decide) rfl e14 C22 (Nat.le_of_eq (Nat.add_zero _)) (Nat.le_of_eq (Nat.add_zero _)) (fun _ _ h => h) ?_
    rintro _ h23 ⟨r24, rfl, K1⟩ -
    replace K := K r24 h23 K1
    show Gm l x mX8_comes 1 90 [(0, .ref a0), (1, .int x1)] [.int r24, .int (8 + (if (hI h13 b15 (Int32.toNatClampNeg 7)) < 7 then (hI h13 b15 (Int32.toNatClampNeg 7)) else 7)), .ref b15] h23 rc rs n0 Q X
    obtain ⟨e25, e26, K⟩ := K
    refine g_iast dX8_comes_90 e25 e26 ?_
    refine g_aload_n dX8_comes_91 rfl 0 rfl ?_
    obtain ⟨e27, b28, e29, K⟩ := K
    refine g_get (c := 8) (k := 2) (v := .ref b28) dX8_comes_92 fc_8 (by decide) (by decide) bw_1200 (congrArg pr (krI e29)) (kkI e27) ?_
    refine g_bipush (v := 7) dX8_comes_95 (by decide) ?_
    refine g_dup2 dX8_comes_97 rfl rfl ?_
    obtain ⟨e30, e31, K⟩ := K
    refine g_iald dX8_comes_98 (kkI e30) (kvI e31) ?_
    refine g_iconst (v := 1) dX8_comes_99 (by decide) ?_
    refine g_iadd dX8_comes_100 ?_
    obtain ⟨e32, K⟩ := K
    refine g_iast dX8_comes_101 (kkI e30) (kvI e32) ?_
    exact g_vret dX8_comes_102 rfl K
  · replace K := K.2 c19
    refine g_iconst (v := 1) dX8_comes_31 (by decide) ?_
    refine g_istore_n (lv' := [(0, .ref a0), (1, .int x1), (2, .int 1)]) dX8_comes_32 rfl (by decide) rfl ?_
    exact K
set_option maxRecDepth 20000 in
set_option maxHeartbeats 4000000 in
theorem vX8_comes_33 {l : Launch} {x : CX} {a0 : Nat} {x1 : Int32} {x2 : Int32} {h : PH} {rc rs n0 : Nat} {Q : Option Value → PH → Prop} {X : String → PH → Prop}
    (K : ((8 ≤ x2 → ((hK h a0).1 = 8) ∧ ∃ b3, (hR h a0 2 = some b3) ∧ ((hK h b3).1 = 100) ∧ (vp_in 7 (hK h b3).2) ∧ ∃ (q7 : Int32 → PH → Prop), CI l x mX8_of 0 0 0 [.ref a0, .int x1, .int 2] h q7 ∧ ∀ (r10 : Int32) (h9 : PH), q7 r10 h9 → ((hK h9 b3).1 = 100) ∧ (vp_in (8 + (if (hI h b3 (Int32.toNatClampNeg 7)) < 7 then (hI h b3 (Int32.toNatClampNeg 7)) else 7)) (hK h9 b3).2) ∧ ((hK h9 a0).1 = 8) ∧ ∃ b14, (hR h9 a0 2 = some b14) ∧ ((hK h9 b14).1 = 100) ∧ (vp_in 7 (hK h9 b14).2) ∧ (vp_in 7 (hK h9 b14).2) ∧ Q none (sI (sI h9 b3 (8 + (if (hI h b3 (Int32.toNatClampNeg 7)) < 7 then (hI h b3 (Int32.toNatClampNeg 7)) else 7)).toNatClampNeg r10) b14 (Int32.toNatClampNeg 7) ((hI (sI h9 b3 (8 + (if (hI h b3 (Int32.toNatClampNeg 7)) < 7 then (hI h b3 (Int32.toNatClampNeg 7)) else 7)).toNatClampNeg r10) b14 (Int32.toNatClampNeg 7)) + 1))) ∧ (¬ 8 ≤ x2 → ((hK h a0).1 = 8) ∧ ∃ b20, (hR h a0 2 = some b20) ∧ ((hK h b20).1 = 100) ∧ (vp_in (8 + x2) (hK h b20).2) ∧ (vp_in ((8 + x2) - 1) (hK h b20).2) ∧ Gm l x mX8_comes 1 33 [(0, .ref a0), (1, .int x1), (2, .int (x2 + 1))] [] (sI h b20 ((8 + x2) - 1).toNatClampNeg (hI h b20 (8 + x2).toNatClampNeg)) rc rs n0 Q X))) :
    Gm l x mX8_comes 1 33 [(0, .ref a0), (1, .int x1), (2, .int x2)] [] h rc rs n0 Q X := by
  refine g_iload_n dX8_comes_33 rfl 2 rfl ?_
  refine g_bipush (v := 8) dX8_comes_34 (by decide) ?_
  refine g_icmp_ge (tgt := 65) dX8_comes_36 (by decide) (fun c1 => ?_) (fun c1 => ?_)
  · replace K := K.1 c1
    refine g_aload_n dX8_comes_65 rfl 0 rfl ?_
    obtain ⟨e2, b3, e4, K⟩ := K
    refine g_get (c := 8) (k := 2) (v := .ref b3) dX8_comes_66 fc_8 (by decide) (by decide) bw_1200 (congrArg pr e4) e2 ?_
    refine g_bipush (v := 8) dX8_comes_69 (by decide) ?_
    refine g_bipush (v := 7) dX8_comes_71 (by decide) ?_
    refine g_aload_n dX8_comes_73 rfl 0 rfl ?_
    refine g_get (c := 8) (k := 2) (v := .ref b3) dX8_comes_74 fc_8 (by decide) (by decide) bw_1200 (congrArg pr e4) e2 ?_
    refine g_bipush (v := 7) dX8_comes_77 (by decide) ?_
    obtain ⟨e5, e6, K⟩ := K
    refine g_iald dX8_comes_79 e5 e6 ?_
    refine g_min dX8_comes_80 bw_1356 bw_765 bw_14 bw_766 (by decide) (Nat.le_of_ble_eq_true rfl) ?_
    refine g_iadd dX8_comes_83 ?_
    refine g_aload_n dX8_comes_84 rfl 0 rfl ?_
    refine g_iload_n dX8_comes_85 rfl 1 rfl ?_
    refine g_iconst (v := 2) dX8_comes_86 (by decide) ?_
    obtain ⟨q7, C8, K⟩ := K
    refine g_callV (M' := mX8_of) (b := a0) (As := [.int x1, .int 2]) (rest := [.int (8 + (if (hI h b3 (Int32.toNatClampNeg 7)) < 7 then (hI h b3 (Int32.toNatClampNeg 7)) else 7)), .ref b3]) (rc' := rc) (rs' := rs) dX8_comes_87 bw_1413 bw_1415 bs_52 bw_9 bw_1416 ⟨by decide +kernel, by decide +kernel, show (parseMethodDescriptor mX8_of.1.desc).map (fun d => d.parameters.length) = some 2 by decide +kernel⟩ (by decide) (by decide) (Nat.le_of_ble_eq_true rfl) fc_8 (by decide) rfl e2 C8 (Nat.le_of_eq (Nat.add_zero _)) (Nat.le_of_eq (Nat.add_zero _)) (fun _ _ h => h) ?_
    rintro _ h9 ⟨r10, rfl, K1⟩ -
    replace K := K r10 h9 K1
    show Gm l x mX8_comes 1 90 [(0, .ref a0), (1, .int x1), (2, .int x2)] [.int r10, .int (8 + (if (hI h b3 (Int32.toNatClampNeg 7)) < 7 then (hI h b3 (Int32.toNatClampNeg 7)) else 7)), .ref b3] h9 rc rs n0 Q X
    obtain ⟨e11, e12, K⟩ := K
    refine g_iast dX8_comes_90 e11 e12 ?_
    refine g_aload_n dX8_comes_91 rfl 0 rfl ?_
    obtain ⟨e13, b14, e15, K⟩ := K
    refine g_get (c := 8) (k := 2) (v := .ref b14) dX8_comes_92 fc_8 (by decide) (by decide) bw_1200 (congrArg pr (krI e15)) (kkI e13) ?_
    refine g_bipush (v := 7) dX8_comes_95 (by decide) ?_
    refine g_dup2 dX8_comes_97 rfl rfl ?_
    obtain ⟨e16, e17, K⟩ := K
    refine g_iald dX8_comes_98 (kkI e16) (kvI e17) ?_
    refine g_iconst (v := 1) dX8_comes_99 (by decide) ?_
    refine g_iadd dX8_comes_100 ?_
    obtain ⟨e18, K⟩ := K
    refine g_iast dX8_comes_101 (kkI e16) (kvI e18) ?_
    exact g_vret dX8_comes_102 rfl K
  · replace K := K.2 c1
    refine g_aload_n dX8_comes_39 rfl 0 rfl ?_
    obtain ⟨e19, b20, e21, K⟩ := K
    refine g_get (c := 8) (k := 2) (v := .ref b20) dX8_comes_40 fc_8 (by decide) (by decide) bw_1200 (congrArg pr e21) e19 ?_
    refine g_bipush (v := 8) dX8_comes_43 (by decide) ?_
    refine g_iload_n dX8_comes_45 rfl 2 rfl ?_
    refine g_iadd dX8_comes_46 ?_
    refine g_iconst (v := 1) dX8_comes_47 (by decide) ?_
    refine g_isub dX8_comes_48 ?_
    refine g_aload_n dX8_comes_49 rfl 0 rfl ?_
    refine g_get (c := 8) (k := 2) (v := .ref b20) dX8_comes_50 fc_8 (by decide) (by decide) bw_1200 (congrArg pr e21) e19 ?_
    refine g_bipush (v := 8) dX8_comes_53 (by decide) ?_
    refine g_iload_n dX8_comes_55 rfl 2 rfl ?_
    refine g_iadd dX8_comes_56 ?_
    obtain ⟨e22, e23, K⟩ := K
    refine g_iald dX8_comes_57 e22 e23 ?_
    obtain ⟨e24, K⟩ := K
    refine g_iast dX8_comes_58 e22 e24 ?_
    refine g_iinc (v := (x2 + 1)) (lv' := [(0, .ref a0), (1, .int x1), (2, .int (x2 + 1))]) dX8_comes_59 2 rfl (by rfl) (by decide) rfl ?_
    refine g_goto (tgt := 33) dX8_comes_62 (by decide) ?_
    exact K
theorem dX8_many_0 : decode cX8_many 0 = .ok (.iconst 0, 1) := by decide +kernel
theorem dX8_many_1 : decode cX8_many 1 = .ok (.istore_n 2, 1) := by decide +kernel
theorem dX8_many_2 : decode cX8_many 2 = .ok (.iconst 0, 1) := by decide +kernel
theorem dX8_many_3 : decode cX8_many 3 = .ok (.istore_n 3, 1) := by decide +kernel
theorem dX8_many_4 : decode cX8_many 4 = .ok (.iload_n 3, 1) := by decide +kernel
theorem dX8_many_5 : decode cX8_many 5 = .ok (.aload_n 0, 1) := by decide +kernel
theorem dX8_many_6 : decode cX8_many 6 = .ok (.getfield 29, 3) := by decide +kernel
theorem dX8_many_9 : decode cX8_many 9 = .ok (.bipush 6, 2) := by decide +kernel
theorem dX8_many_11 : decode cX8_many 11 = .ok (.iaload, 1) := by decide +kernel
theorem dX8_many_12 : decode cX8_many 12 = .ok (.if_icmp .ge 27, 3) := by decide +kernel
theorem dX8_many_15 : decode cX8_many 15 = .ok (.iload_n 2, 1) := by decide +kernel
theorem dX8_many_16 : decode cX8_many 16 = .ok (.aload_n 0, 1) := by decide +kernel
theorem dX8_many_17 : decode cX8_many 17 = .ok (.iload_n 3, 1) := by decide +kernel
theorem dX8_many_18 : decode cX8_many 18 = .ok (.iconst 4, 1) := by decide +kernel
theorem dX8_many_19 : decode cX8_many 19 = .ok (.invokevirtual 228, 3) := by decide +kernel
theorem dX8_many_22 : decode cX8_many 22 = .ok (.iload_n 1, 1) := by decide +kernel
theorem dX8_many_23 : decode cX8_many 23 = .ok (.if_icmp .ne 7, 3) := by decide +kernel
theorem dX8_many_26 : decode cX8_many 26 = .ok (.iconst 1, 1) := by decide +kernel
theorem dX8_many_27 : decode cX8_many 27 = .ok (.goto 4, 3) := by decide +kernel
theorem dX8_many_30 : decode cX8_many 30 = .ok (.iconst 0, 1) := by decide +kernel
theorem dX8_many_31 : decode cX8_many 31 = .ok (.iadd, 1) := by decide +kernel
theorem dX8_many_32 : decode cX8_many 32 = .ok (.istore_n 2, 1) := by decide +kernel
theorem dX8_many_33 : decode cX8_many 33 = .ok (.iinc 3 1, 3) := by decide +kernel
theorem dX8_many_36 : decode cX8_many 36 = .ok (.goto (-32), 3) := by decide +kernel
theorem dX8_many_39 : decode cX8_many 39 = .ok (.iload_n 2, 1) := by decide +kernel
theorem dX8_many_40 : decode cX8_many 40 = .ok (.ireturn, 1) := by decide +kernel
set_option maxRecDepth 20000 in
set_option maxHeartbeats 4000000 in
theorem vX8_many_0 {l : Launch} {x : CX} {a0 : Nat} {x1 : Int32} {h : PH} {rc rs n0 : Nat} {Q : Option Value → PH → Prop} {X : String → PH → Prop}
    (K : Gm l x mX8_many 1 4 [(0, .ref a0), (1, .int x1), (2, .int 0), (3, .int 0)] [] h rc rs n0 Q X) :
    Gm l x mX8_many 1 0 [(0, .ref a0), (1, .int x1)] [] h rc rs n0 Q X := by
  refine g_iconst (v := 0) dX8_many_0 (by decide) ?_
  refine g_istore_n (lv' := [(0, .ref a0), (1, .int x1), (2, .int 0)]) dX8_many_1 rfl (by decide) rfl ?_
  refine g_iconst (v := 0) dX8_many_2 (by decide) ?_
  refine g_istore_n (lv' := [(0, .ref a0), (1, .int x1), (2, .int 0), (3, .int 0)]) dX8_many_3 rfl (by decide) rfl ?_
  exact K
set_option maxRecDepth 20000 in
set_option maxHeartbeats 4000000 in
theorem vX8_many_4 {l : Launch} {x : CX} {a0 : Nat} {x1 : Int32} {x2 : Int32} {x3 : Int32} {h : PH} {rc rs n0 : Nat} {Q : Option Value → PH → Prop} {X : String → PH → Prop}
    (K : ((hK h a0).1 = 8) ∧ ∃ b2, (hR h a0 2 = some b2) ∧ ((hK h b2).1 = 100) ∧ (vp_in 6 (hK h b2).2) ∧ (((hI h b2 (Int32.toNatClampNeg 6)) ≤ x3 → Q (some (.int x2)) h) ∧ (¬ (hI h b2 (Int32.toNatClampNeg 6)) ≤ x3 → ∃ (q7 : Int32 → PH → Prop), CI l x mX8_of 0 0 0 [.ref a0, .int x3, .int 4] h q7 ∧ ∀ (r10 : Int32) (h9 : PH), q7 r10 h9 → Gm l x mX8_many 1 4 [(0, .ref a0), (1, .int x1), (2, .int (x2 + (if r10 = x1 then 1 else 0 : Int32))), (3, .int (x3 + 1))] [] h9 rc rs n0 Q X))) :
    Gm l x mX8_many 1 4 [(0, .ref a0), (1, .int x1), (2, .int x2), (3, .int x3)] [] h rc rs n0 Q X := by
  refine g_iload_n dX8_many_4 rfl 3 rfl ?_
  refine g_aload_n dX8_many_5 rfl 0 rfl ?_
  obtain ⟨e1, b2, e3, K⟩ := K
  refine g_get (c := 8) (k := 2) (v := .ref b2) dX8_many_6 fc_8 (by decide) (by decide) bw_1200 (congrArg pr e3) e1 ?_
  refine g_bipush (v := 6) dX8_many_9 (by decide) ?_
  obtain ⟨e4, e5, K⟩ := K
  refine g_iald dX8_many_11 e4 e5 ?_
  refine g_icmp_ge (tgt := 39) dX8_many_12 (by decide) (fun c6 => ?_) (fun c6 => ?_)
  · replace K := K.1 c6
    refine g_iload_n dX8_many_39 rfl 2 rfl ?_
    exact g_iret dX8_many_40 rfl K
  · replace K := K.2 c6
    refine g_iload_n dX8_many_15 rfl 2 rfl ?_
    refine g_aload_n dX8_many_16 rfl 0 rfl ?_
    refine g_iload_n dX8_many_17 rfl 3 rfl ?_
    refine g_iconst (v := 4) dX8_many_18 (by decide) ?_
    obtain ⟨q7, C8, K⟩ := K
    refine g_callV (M' := mX8_of) (b := a0) (As := [.int x3, .int 4]) (rest := [.int x2]) (rc' := rc) (rs' := rs) dX8_many_19 bw_1413 bw_1415 bs_52 bw_9 bw_1416 ⟨by decide +kernel, by decide +kernel, show (parseMethodDescriptor mX8_of.1.desc).map (fun d => d.parameters.length) = some 2 by decide +kernel⟩ (by decide) (by decide) (Nat.le_of_ble_eq_true rfl) fc_8 (by decide) rfl e1 C8 (Nat.le_of_eq (Nat.add_zero _)) (Nat.le_of_eq (Nat.add_zero _)) (fun _ _ h => h) ?_
    rintro _ h9 ⟨r10, rfl, K1⟩ -
    replace K := K r10 h9 K1
    show Gm l x mX8_many 1 22 [(0, .ref a0), (1, .int x1), (2, .int x2), (3, .int x3)] [.int r10, .int x2] h9 rc rs n0 Q X
    refine g_iload_n dX8_many_22 rfl 1 rfl ?_
    have KJ : Gm l x mX8_many 1 31 [(0, .ref a0), (1, .int x1), (2, .int x2), (3, .int x3)] [.int (if r10 = x1 then 1 else 0 : Int32), .int x2] h9 rc rs n0 Q X := by
      refine g_iadd dX8_many_31 ?_
      refine g_istore_n (lv' := [(0, .ref a0), (1, .int x1), (2, .int (x2 + (if r10 = x1 then 1 else 0 : Int32))), (3, .int x3)]) dX8_many_32 rfl (by decide) rfl ?_
      refine g_iinc (v := (x3 + 1)) (lv' := [(0, .ref a0), (1, .int x1), (2, .int (x2 + (if r10 = x1 then 1 else 0 : Int32))), (3, .int (x3 + 1))]) dX8_many_33 3 rfl (by rfl) (by decide) rfl ?_
      refine g_goto (tgt := 4) dX8_many_36 (by decide) ?_
      exact K
    refine g_icmp_ne (tgt := 30) dX8_many_23 (by decide) (fun c11 => ?_) (fun c11 => ?_)
    · refine g_iconst (v := 0) dX8_many_30 (by decide) ?_
      first | (simp only [if_neg c11] at KJ; exact KJ) | (simp only [if_neg c11, ite_true, ite_false, eq_self] at KJ; exact KJ) | (simp only [if_neg c11] at KJ ⊢; exact KJ) | exact KJ
    · refine g_iconst (v := 1) dX8_many_26 (by decide) ?_
      refine g_goto (tgt := 31) dX8_many_27 (by decide) ?_
      first | (simp only [if_pos c11] at KJ; exact KJ) | (simp only [if_pos c11, ite_true, ite_false, eq_self] at KJ; exact KJ) | (simp only [if_pos c11] at KJ ⊢; exact KJ) | exact KJ
theorem dX8_waited_0 : decode cX8_waited 0 = .ok (.iconst 0, 1) := by decide +kernel
theorem dX8_waited_1 : decode cX8_waited 1 = .ok (.istore_n 1, 1) := by decide +kernel
theorem dX8_waited_2 : decode cX8_waited 2 = .ok (.iconst 0, 1) := by decide +kernel
theorem dX8_waited_3 : decode cX8_waited 3 = .ok (.istore_n 2, 1) := by decide +kernel
theorem dX8_waited_4 : decode cX8_waited 4 = .ok (.iload_n 2, 1) := by decide +kernel
theorem dX8_waited_5 : decode cX8_waited 5 = .ok (.aload_n 0, 1) := by decide +kernel
theorem dX8_waited_6 : decode cX8_waited 6 = .ok (.getfield 29, 3) := by decide +kernel
theorem dX8_waited_9 : decode cX8_waited 9 = .ok (.bipush 6, 2) := by decide +kernel
theorem dX8_waited_11 : decode cX8_waited 11 = .ok (.iaload, 1) := by decide +kernel
theorem dX8_waited_12 : decode cX8_waited 12 = .ok (.if_icmp .ge 19, 3) := by decide +kernel
theorem dX8_waited_15 : decode cX8_waited 15 = .ok (.iload_n 1, 1) := by decide +kernel
theorem dX8_waited_16 : decode cX8_waited 16 = .ok (.aload_n 0, 1) := by decide +kernel
theorem dX8_waited_17 : decode cX8_waited 17 = .ok (.iload_n 2, 1) := by decide +kernel
theorem dX8_waited_18 : decode cX8_waited 18 = .ok (.bipush 6, 2) := by decide +kernel
theorem dX8_waited_20 : decode cX8_waited 20 = .ok (.invokevirtual 228, 3) := by decide +kernel
theorem dX8_waited_23 : decode cX8_waited 23 = .ok (.iadd, 1) := by decide +kernel
theorem dX8_waited_24 : decode cX8_waited 24 = .ok (.istore_n 1, 1) := by decide +kernel
theorem dX8_waited_25 : decode cX8_waited 25 = .ok (.iinc 2 1, 3) := by decide +kernel
theorem dX8_waited_28 : decode cX8_waited 28 = .ok (.goto (-24), 3) := by decide +kernel
theorem dX8_waited_31 : decode cX8_waited 31 = .ok (.iload_n 1, 1) := by decide +kernel
theorem dX8_waited_32 : decode cX8_waited 32 = .ok (.ireturn, 1) := by decide +kernel
set_option maxRecDepth 20000 in
set_option maxHeartbeats 4000000 in
theorem vX8_waited_0 {l : Launch} {x : CX} {a0 : Nat} {h : PH} {rc rs n0 : Nat} {Q : Option Value → PH → Prop} {X : String → PH → Prop}
    (K : Gm l x mX8_waited 1 4 [(0, .ref a0), (1, .int 0), (2, .int 0)] [] h rc rs n0 Q X) :
    Gm l x mX8_waited 1 0 [(0, .ref a0)] [] h rc rs n0 Q X := by
  refine g_iconst (v := 0) dX8_waited_0 (by decide) ?_
  refine g_istore_n (lv' := [(0, .ref a0), (1, .int 0)]) dX8_waited_1 rfl (by decide) rfl ?_
  refine g_iconst (v := 0) dX8_waited_2 (by decide) ?_
  refine g_istore_n (lv' := [(0, .ref a0), (1, .int 0), (2, .int 0)]) dX8_waited_3 rfl (by decide) rfl ?_
  exact K
set_option maxRecDepth 20000 in
set_option maxHeartbeats 4000000 in
theorem vX8_waited_4 {l : Launch} {x : CX} {a0 : Nat} {x1 : Int32} {x2 : Int32} {h : PH} {rc rs n0 : Nat} {Q : Option Value → PH → Prop} {X : String → PH → Prop}
    (K : ((hK h a0).1 = 8) ∧ ∃ b2, (hR h a0 2 = some b2) ∧ ((hK h b2).1 = 100) ∧ (vp_in 6 (hK h b2).2) ∧ (((hI h b2 (Int32.toNatClampNeg 6)) ≤ x2 → Q (some (.int x1)) h) ∧ (¬ (hI h b2 (Int32.toNatClampNeg 6)) ≤ x2 → ∃ (q7 : Int32 → PH → Prop), CI l x mX8_of 0 0 0 [.ref a0, .int x2, .int 6] h q7 ∧ ∀ (r10 : Int32) (h9 : PH), q7 r10 h9 → Gm l x mX8_waited 1 4 [(0, .ref a0), (1, .int (x1 + r10)), (2, .int (x2 + 1))] [] h9 rc rs n0 Q X))) :
    Gm l x mX8_waited 1 4 [(0, .ref a0), (1, .int x1), (2, .int x2)] [] h rc rs n0 Q X := by
  refine g_iload_n dX8_waited_4 rfl 2 rfl ?_
  refine g_aload_n dX8_waited_5 rfl 0 rfl ?_
  obtain ⟨e1, b2, e3, K⟩ := K
  refine g_get (c := 8) (k := 2) (v := .ref b2) dX8_waited_6 fc_8 (by decide) (by decide) bw_1200 (congrArg pr e3) e1 ?_
  refine g_bipush (v := 6) dX8_waited_9 (by decide) ?_
  obtain ⟨e4, e5, K⟩ := K
  refine g_iald dX8_waited_11 e4 e5 ?_
  refine g_icmp_ge (tgt := 31) dX8_waited_12 (by decide) (fun c6 => ?_) (fun c6 => ?_)
  · replace K := K.1 c6
    refine g_iload_n dX8_waited_31 rfl 1 rfl ?_
    exact g_iret dX8_waited_32 rfl K
  · replace K := K.2 c6
    refine g_iload_n dX8_waited_15 rfl 1 rfl ?_
    refine g_aload_n dX8_waited_16 rfl 0 rfl ?_
    refine g_iload_n dX8_waited_17 rfl 2 rfl ?_
    refine g_bipush (v := 6) dX8_waited_18 (by decide) ?_
    obtain ⟨q7, C8, K⟩ := K
    refine g_callV (M' := mX8_of) (b := a0) (As := [.int x2, .int 6]) (rest := [.int x1]) (rc' := rc) (rs' := rs) dX8_waited_20 bw_1413 bw_1415 bs_52 bw_9 bw_1416 ⟨by decide +kernel, by decide +kernel, show (parseMethodDescriptor mX8_of.1.desc).map (fun d => d.parameters.length) = some 2 by decide +kernel⟩ (by decide) (by decide) (Nat.le_of_ble_eq_true rfl) fc_8 (by decide) rfl e1 C8 (Nat.le_of_eq (Nat.add_zero _)) (Nat.le_of_eq (Nat.add_zero _)) (fun _ _ h => h) ?_
    rintro _ h9 ⟨r10, rfl, K1⟩ -
    replace K := K r10 h9 K1
    show Gm l x mX8_waited 1 23 [(0, .ref a0), (1, .int x1), (2, .int x2)] [.int r10, .int x1] h9 rc rs n0 Q X
    refine g_iadd dX8_waited_23 ?_
    refine g_istore_n (lv' := [(0, .ref a0), (1, .int (x1 + r10)), (2, .int x2)]) dX8_waited_24 rfl (by decide) rfl ?_
    refine g_iinc (v := (x2 + 1)) (lv' := [(0, .ref a0), (1, .int (x1 + r10)), (2, .int (x2 + 1))]) dX8_waited_25 2 rfl (by rfl) (by decide) rfl ?_
    refine g_goto (tgt := 4) dX8_waited_28 (by decide) ?_
    exact K
theorem dX8_worst_0 : decode cX8_worst 0 = .ok (.iconst (-1), 1) := by decide +kernel
theorem dX8_worst_1 : decode cX8_worst 1 = .ok (.istore_n 1, 1) := by decide +kernel
theorem dX8_worst_2 : decode cX8_worst 2 = .ok (.iconst 0, 1) := by decide +kernel
theorem dX8_worst_3 : decode cX8_worst 3 = .ok (.istore_n 2, 1) := by decide +kernel
theorem dX8_worst_4 : decode cX8_worst 4 = .ok (.iload_n 2, 1) := by decide +kernel
theorem dX8_worst_5 : decode cX8_worst 5 = .ok (.aload_n 0, 1) := by decide +kernel
theorem dX8_worst_6 : decode cX8_worst 6 = .ok (.getfield 29, 3) := by decide +kernel
theorem dX8_worst_9 : decode cX8_worst 9 = .ok (.bipush 6, 2) := by decide +kernel
theorem dX8_worst_11 : decode cX8_worst 11 = .ok (.iaload, 1) := by decide +kernel
theorem dX8_worst_12 : decode cX8_worst 12 = .ok (.if_icmp .ge 33, 3) := by decide +kernel
theorem dX8_worst_15 : decode cX8_worst 15 = .ok (.iload_n 1, 1) := by decide +kernel
theorem dX8_worst_16 : decode cX8_worst 16 = .ok (.iconst (-1), 1) := by decide +kernel
theorem dX8_worst_17 : decode cX8_worst 17 = .ok (.if_icmp .eq 20, 3) := by decide +kernel
theorem dX8_worst_20 : decode cX8_worst 20 = .ok (.aload_n 0, 1) := by decide +kernel
theorem dX8_worst_21 : decode cX8_worst 21 = .ok (.iload_n 2, 1) := by decide +kernel
theorem dX8_worst_22 : decode cX8_worst 22 = .ok (.bipush 6, 2) := by decide +kernel
theorem dX8_worst_24 : decode cX8_worst 24 = .ok (.invokevirtual 228, 3) := by decide +kernel
theorem dX8_worst_27 : decode cX8_worst 27 = .ok (.aload_n 0, 1) := by decide +kernel
theorem dX8_worst_28 : decode cX8_worst 28 = .ok (.iload_n 1, 1) := by decide +kernel
theorem dX8_worst_29 : decode cX8_worst 29 = .ok (.bipush 6, 2) := by decide +kernel
theorem dX8_worst_31 : decode cX8_worst 31 = .ok (.invokevirtual 228, 3) := by decide +kernel
theorem dX8_worst_34 : decode cX8_worst 34 = .ok (.if_icmp .le 5, 3) := by decide +kernel
theorem dX8_worst_37 : decode cX8_worst 37 = .ok (.iload_n 2, 1) := by decide +kernel
theorem dX8_worst_38 : decode cX8_worst 38 = .ok (.istore_n 1, 1) := by decide +kernel
theorem dX8_worst_39 : decode cX8_worst 39 = .ok (.iinc 2 1, 3) := by decide +kernel
theorem dX8_worst_42 : decode cX8_worst 42 = .ok (.goto (-38), 3) := by decide +kernel
theorem dX8_worst_45 : decode cX8_worst 45 = .ok (.iload_n 1, 1) := by decide +kernel
theorem dX8_worst_46 : decode cX8_worst 46 = .ok (.ireturn, 1) := by decide +kernel
set_option maxRecDepth 20000 in
set_option maxHeartbeats 4000000 in
theorem vX8_worst_0 {l : Launch} {x : CX} {a0 : Nat} {h : PH} {rc rs n0 : Nat} {Q : Option Value → PH → Prop} {X : String → PH → Prop}
    (K : Gm l x mX8_worst 1 4 [(0, .ref a0), (1, .int (-1)), (2, .int 0)] [] h rc rs n0 Q X) :
    Gm l x mX8_worst 1 0 [(0, .ref a0)] [] h rc rs n0 Q X := by
  refine g_iconst (v := (-1)) dX8_worst_0 (by decide) ?_
  refine g_istore_n (lv' := [(0, .ref a0), (1, .int (-1))]) dX8_worst_1 rfl (by decide) rfl ?_
  refine g_iconst (v := 0) dX8_worst_2 (by decide) ?_
  refine g_istore_n (lv' := [(0, .ref a0), (1, .int (-1)), (2, .int 0)]) dX8_worst_3 rfl (by decide) rfl ?_
  exact K
set_option maxRecDepth 20000 in
set_option maxHeartbeats 4000000 in
theorem vX8_worst_4 {l : Launch} {x : CX} {a0 : Nat} {x1 : Int32} {x2 : Int32} {h : PH} {rc rs n0 : Nat} {Q : Option Value → PH → Prop} {X : String → PH → Prop}
    (K : ((hK h a0).1 = 8) ∧ ∃ b2, (hR h a0 2 = some b2) ∧ ((hK h b2).1 = 100) ∧ (vp_in 6 (hK h b2).2) ∧ (((hI h b2 (Int32.toNatClampNeg 6)) ≤ x2 → Q (some (.int x1)) h) ∧ (¬ (hI h b2 (Int32.toNatClampNeg 6)) ≤ x2 → ((x1 = (-1) → Gm l x mX8_worst 1 4 [(0, .ref a0), (1, .int x2), (2, .int (x2 + 1))] [] h rc rs n0 Q X) ∧ (¬ x1 = (-1) → ∃ (q8 : Int32 → PH → Prop), CI l x mX8_of 0 0 0 [.ref a0, .int x2, .int 6] h q8 ∧ ∀ (r11 : Int32) (h10 : PH), q8 r11 h10 → ((hK h10 a0).1 = 8) ∧ ∃ (q12 : Int32 → PH → Prop), CI l x mX8_of 0 0 0 [.ref a0, .int x1, .int 6] h10 q12 ∧ ∀ (r16 : Int32) (h15 : PH), q12 r16 h15 → Gm l x mX8_worst 1 4 [(0, .ref a0), (1, .int (if r11 ≤ r16 then x1 else x2 : Int32)), (2, .int (x2 + 1))] [] h15 rc rs n0 Q X))))) :
    Gm l x mX8_worst 1 4 [(0, .ref a0), (1, .int x1), (2, .int x2)] [] h rc rs n0 Q X := by
  refine g_iload_n dX8_worst_4 rfl 2 rfl ?_
  refine g_aload_n dX8_worst_5 rfl 0 rfl ?_
  obtain ⟨e1, b2, e3, K⟩ := K
  refine g_get (c := 8) (k := 2) (v := .ref b2) dX8_worst_6 fc_8 (by decide) (by decide) bw_1200 (congrArg pr e3) e1 ?_
  refine g_bipush (v := 6) dX8_worst_9 (by decide) ?_
  obtain ⟨e4, e5, K⟩ := K
  refine g_iald dX8_worst_11 e4 e5 ?_
  refine g_icmp_ge (tgt := 45) dX8_worst_12 (by decide) (fun c6 => ?_) (fun c6 => ?_)
  · replace K := K.1 c6
    refine g_iload_n dX8_worst_45 rfl 1 rfl ?_
    exact g_iret dX8_worst_46 rfl K
  · replace K := K.2 c6
    refine g_iload_n dX8_worst_15 rfl 1 rfl ?_
    refine g_iconst (v := (-1)) dX8_worst_16 (by decide) ?_
    refine g_icmp_eq (tgt := 37) dX8_worst_17 (by decide) (fun c7 => ?_) (fun c7 => ?_)
    · replace K := K.1 c7
      refine g_iload_n dX8_worst_37 rfl 2 rfl ?_
      refine g_istore_n (lv' := [(0, .ref a0), (1, .int x2), (2, .int x2)]) dX8_worst_38 rfl (by decide) rfl ?_
      refine g_iinc (v := (x2 + 1)) (lv' := [(0, .ref a0), (1, .int x2), (2, .int (x2 + 1))]) dX8_worst_39 2 rfl (by rfl) (by decide) rfl ?_
      refine g_goto (tgt := 4) dX8_worst_42 (by decide) ?_
      exact K
    · replace K := K.2 c7
      refine g_aload_n dX8_worst_20 rfl 0 rfl ?_
      refine g_iload_n dX8_worst_21 rfl 2 rfl ?_
      refine g_bipush (v := 6) dX8_worst_22 (by decide) ?_
      obtain ⟨q8, C9, K⟩ := K
      refine g_callV (M' := mX8_of) (b := a0) (As := [.int x2, .int 6]) (rest := []) (rc' := rc) (rs' := rs) dX8_worst_24 bw_1413 bw_1415 bs_52 bw_9 bw_1416 ⟨by decide +kernel, by decide +kernel, show (parseMethodDescriptor mX8_of.1.desc).map (fun d => d.parameters.length) = some 2 by decide +kernel⟩ (by decide) (by decide) (Nat.le_of_ble_eq_true rfl) fc_8 (by decide) rfl e1 C9 (Nat.le_of_eq (Nat.add_zero _)) (Nat.le_of_eq (Nat.add_zero _)) (fun _ _ h => h) ?_
      rintro _ h10 ⟨r11, rfl, K1⟩ -
      replace K := K r11 h10 K1
      show Gm l x mX8_worst 1 27 [(0, .ref a0), (1, .int x1), (2, .int x2)] [.int r11] h10 rc rs n0 Q X
      refine g_aload_n dX8_worst_27 rfl 0 rfl ?_
      refine g_iload_n dX8_worst_28 rfl 1 rfl ?_
      refine g_bipush (v := 6) dX8_worst_29 (by decide) ?_
      obtain ⟨e14, K⟩ := K
      obtain ⟨q12, C13, K⟩ := K
      refine g_callV (M' := mX8_of) (b := a0) (As := [.int x1, .int 6]) (rest := [.int r11]) (rc' := rc) (rs' := rs) dX8_worst_31 bw_1413 bw_1415 bs_52 bw_9 bw_1416 ⟨by decide +kernel, by decide +kernel, show (parseMethodDescriptor mX8_of.1.desc).map (fun d => d.parameters.length) = some 2 by decide +kernel⟩ (by decide) (by decide) (Nat.le_of_ble_eq_true rfl) fc_8 (by decide) rfl e14 C13 (Nat.le_of_eq (Nat.add_zero _)) (Nat.le_of_eq (Nat.add_zero _)) (fun _ _ h => h) ?_
      rintro _ h15 ⟨r16, rfl, K1⟩ -
      replace K := K r16 h15 K1
      show Gm l x mX8_worst 1 34 [(0, .ref a0), (1, .int x1), (2, .int x2)] [.int r16, .int r11] h15 rc rs n0 Q X
      have KJ : Gm l x mX8_worst 1 39 [(0, .ref a0), (1, .int (if r11 ≤ r16 then x1 else x2 : Int32)), (2, .int x2)] [] h15 rc rs n0 Q X := by
        refine g_iinc (v := (x2 + 1)) (lv' := [(0, .ref a0), (1, .int (if r11 ≤ r16 then x1 else x2 : Int32)), (2, .int (x2 + 1))]) dX8_worst_39 2 rfl (by rfl) (by decide) rfl ?_
        refine g_goto (tgt := 4) dX8_worst_42 (by decide) ?_
        exact K
      refine g_icmp_le (tgt := 39) dX8_worst_34 (by decide) (fun c17 => ?_) (fun c17 => ?_)
      · first | (simp only [if_pos c17] at KJ; exact KJ) | (simp only [if_pos c17, ite_true, ite_false, eq_self] at KJ; exact KJ) | (simp only [if_pos c17] at KJ ⊢; exact KJ) | exact KJ
      · refine g_iload_n dX8_worst_37 rfl 2 rfl ?_
        refine g_istore_n (lv' := [(0, .ref a0), (1, .int x2), (2, .int x2)]) dX8_worst_38 rfl (by decide) rfl ?_
        first | (simp only [if_neg c17] at KJ; exact KJ) | (simp only [if_neg c17, ite_true, ite_false, eq_self] at KJ; exact KJ) | (simp only [if_neg c17] at KJ ⊢; exact KJ) | exact KJ
theorem dX8_isOvertaken_0 : decode cX8_isOvertaken 0 = .ok (.aload_n 0, 1) := by decide +kernel
theorem dX8_isOvertaken_1 : decode cX8_isOvertaken 1 = .ok (.iload_n 1, 1) := by decide +kernel
theorem dX8_isOvertaken_2 : decode cX8_isOvertaken 2 = .ok (.iconst 2, 1) := by decide +kernel
theorem dX8_isOvertaken_3 : decode cX8_isOvertaken 3 = .ok (.invokevirtual 228, 3) := by decide +kernel
theorem dX8_isOvertaken_6 : decode cX8_isOvertaken 6 = .ok (.aload_n 0, 1) := by decide +kernel
theorem dX8_isOvertaken_7 : decode cX8_isOvertaken 7 = .ok (.iload_n 2, 1) := by decide +kernel
theorem dX8_isOvertaken_8 : decode cX8_isOvertaken 8 = .ok (.iconst 2, 1) := by decide +kernel
theorem dX8_isOvertaken_9 : decode cX8_isOvertaken 9 = .ok (.invokevirtual 228, 3) := by decide +kernel
theorem dX8_isOvertaken_12 : decode cX8_isOvertaken 12 = .ok (.if_icmp .ne 65, 3) := by decide +kernel
theorem dX8_isOvertaken_15 : decode cX8_isOvertaken 15 = .ok (.aload_n 0, 1) := by decide +kernel
theorem dX8_isOvertaken_16 : decode cX8_isOvertaken 16 = .ok (.iload_n 1, 1) := by decide +kernel
theorem dX8_isOvertaken_17 : decode cX8_isOvertaken 17 = .ok (.iconst 0, 1) := by decide +kernel
theorem dX8_isOvertaken_18 : decode cX8_isOvertaken 18 = .ok (.invokevirtual 228, 3) := by decide +kernel
theorem dX8_isOvertaken_21 : decode cX8_isOvertaken 21 = .ok (.aload_n 0, 1) := by decide +kernel
theorem dX8_isOvertaken_22 : decode cX8_isOvertaken 22 = .ok (.iload_n 2, 1) := by decide +kernel
theorem dX8_isOvertaken_23 : decode cX8_isOvertaken 23 = .ok (.iconst 0, 1) := by decide +kernel
theorem dX8_isOvertaken_24 : decode cX8_isOvertaken 24 = .ok (.invokevirtual 228, 3) := by decide +kernel
theorem dX8_isOvertaken_27 : decode cX8_isOvertaken 27 = .ok (.if_icmp .ne 50, 3) := by decide +kernel
theorem dX8_isOvertaken_30 : decode cX8_isOvertaken 30 = .ok (.aload_n 0, 1) := by decide +kernel
theorem dX8_isOvertaken_31 : decode cX8_isOvertaken 31 = .ok (.iload_n 1, 1) := by decide +kernel
theorem dX8_isOvertaken_32 : decode cX8_isOvertaken 32 = .ok (.iconst 3, 1) := by decide +kernel
theorem dX8_isOvertaken_33 : decode cX8_isOvertaken 33 = .ok (.invokevirtual 228, 3) := by decide +kernel
theorem dX8_isOvertaken_36 : decode cX8_isOvertaken 36 = .ok (.aload_n 0, 1) := by decide +kernel
theorem dX8_isOvertaken_37 : decode cX8_isOvertaken 37 = .ok (.iload_n 1, 1) := by decide +kernel
theorem dX8_isOvertaken_38 : decode cX8_isOvertaken 38 = .ok (.iconst 2, 1) := by decide +kernel
theorem dX8_isOvertaken_39 : decode cX8_isOvertaken 39 = .ok (.invokevirtual 228, 3) := by decide +kernel
theorem dX8_isOvertaken_42 : decode cX8_isOvertaken 42 = .ok (.if_icmp .le 7, 3) := by decide +kernel
theorem dX8_isOvertaken_45 : decode cX8_isOvertaken 45 = .ok (.iconst 1, 1) := by decide +kernel
theorem dX8_isOvertaken_46 : decode cX8_isOvertaken 46 = .ok (.goto 4, 3) := by decide +kernel
theorem dX8_isOvertaken_49 : decode cX8_isOvertaken 49 = .ok (.iconst 0, 1) := by decide +kernel
theorem dX8_isOvertaken_50 : decode cX8_isOvertaken 50 = .ok (.aload_n 0, 1) := by decide +kernel
theorem dX8_isOvertaken_51 : decode cX8_isOvertaken 51 = .ok (.iload_n 2, 1) := by decide +kernel
theorem dX8_isOvertaken_52 : decode cX8_isOvertaken 52 = .ok (.iconst 3, 1) := by decide +kernel
theorem dX8_isOvertaken_53 : decode cX8_isOvertaken 53 = .ok (.invokevirtual 228, 3) := by decide +kernel
theorem dX8_isOvertaken_56 : decode cX8_isOvertaken 56 = .ok (.aload_n 0, 1) := by decide +kernel
theorem dX8_isOvertaken_57 : decode cX8_isOvertaken 57 = .ok (.iload_n 2, 1) := by decide +kernel
theorem dX8_isOvertaken_58 : decode cX8_isOvertaken 58 = .ok (.iconst 2, 1) := by decide +kernel
theorem dX8_isOvertaken_59 : decode cX8_isOvertaken 59 = .ok (.invokevirtual 228, 3) := by decide +kernel
theorem dX8_isOvertaken_62 : decode cX8_isOvertaken 62 = .ok (.if_icmp .le 7, 3) := by decide +kernel
theorem dX8_isOvertaken_65 : decode cX8_isOvertaken 65 = .ok (.iconst 1, 1) := by decide +kernel
theorem dX8_isOvertaken_66 : decode cX8_isOvertaken 66 = .ok (.goto 4, 3) := by decide +kernel
theorem dX8_isOvertaken_69 : decode cX8_isOvertaken 69 = .ok (.iconst 0, 1) := by decide +kernel
theorem dX8_isOvertaken_70 : decode cX8_isOvertaken 70 = .ok (.if_icmp .ne 7, 3) := by decide +kernel
theorem dX8_isOvertaken_73 : decode cX8_isOvertaken 73 = .ok (.iconst 1, 1) := by decide +kernel
theorem dX8_isOvertaken_74 : decode cX8_isOvertaken 74 = .ok (.goto 4, 3) := by decide +kernel
theorem dX8_isOvertaken_77 : decode cX8_isOvertaken 77 = .ok (.iconst 0, 1) := by decide +kernel
theorem dX8_isOvertaken_78 : decode cX8_isOvertaken 78 = .ok (.istore_n 3, 1) := by decide +kernel
theorem dX8_isOvertaken_79 : decode cX8_isOvertaken 79 = .ok (.aload_n 0, 1) := by decide +kernel
theorem dX8_isOvertaken_80 : decode cX8_isOvertaken 80 = .ok (.iload_n 1, 1) := by decide +kernel
theorem dX8_isOvertaken_81 : decode cX8_isOvertaken 81 = .ok (.iconst 1, 1) := by decide +kernel
theorem dX8_isOvertaken_82 : decode cX8_isOvertaken 82 = .ok (.invokevirtual 228, 3) := by decide +kernel
theorem dX8_isOvertaken_85 : decode cX8_isOvertaken 85 = .ok (.aload_n 0, 1) := by decide +kernel
theorem dX8_isOvertaken_86 : decode cX8_isOvertaken 86 = .ok (.iload_n 2, 1) := by decide +kernel
theorem dX8_isOvertaken_87 : decode cX8_isOvertaken 87 = .ok (.iconst 1, 1) := by decide +kernel
theorem dX8_isOvertaken_88 : decode cX8_isOvertaken 88 = .ok (.invokevirtual 228, 3) := by decide +kernel
theorem dX8_isOvertaken_91 : decode cX8_isOvertaken 91 = .ok (.if_icmp .lt 23, 3) := by decide +kernel
theorem dX8_isOvertaken_94 : decode cX8_isOvertaken 94 = .ok (.aload_n 0, 1) := by decide +kernel
theorem dX8_isOvertaken_95 : decode cX8_isOvertaken 95 = .ok (.iload_n 1, 1) := by decide +kernel
theorem dX8_isOvertaken_96 : decode cX8_isOvertaken 96 = .ok (.iconst 1, 1) := by decide +kernel
theorem dX8_isOvertaken_97 : decode cX8_isOvertaken 97 = .ok (.invokevirtual 228, 3) := by decide +kernel
theorem dX8_isOvertaken_100 : decode cX8_isOvertaken 100 = .ok (.aload_n 0, 1) := by decide +kernel
theorem dX8_isOvertaken_101 : decode cX8_isOvertaken 101 = .ok (.iload_n 2, 1) := by decide +kernel
theorem dX8_isOvertaken_102 : decode cX8_isOvertaken 102 = .ok (.iconst 1, 1) := by decide +kernel
theorem dX8_isOvertaken_103 : decode cX8_isOvertaken 103 = .ok (.invokevirtual 228, 3) := by decide +kernel
theorem dX8_isOvertaken_106 : decode cX8_isOvertaken 106 = .ok (.if_icmp .ne 12, 3) := by decide +kernel
theorem dX8_isOvertaken_109 : decode cX8_isOvertaken 109 = .ok (.iload_n 1, 1) := by decide +kernel
theorem dX8_isOvertaken_110 : decode cX8_isOvertaken 110 = .ok (.iload_n 2, 1) := by decide +kernel
theorem dX8_isOvertaken_111 : decode cX8_isOvertaken 111 = .ok (.if_icmp .ge 7, 3) := by decide +kernel
theorem dX8_isOvertaken_114 : decode cX8_isOvertaken 114 = .ok (.iconst 1, 1) := by decide +kernel
theorem dX8_isOvertaken_115 : decode cX8_isOvertaken 115 = .ok (.goto 4, 3) := by decide +kernel
theorem dX8_isOvertaken_118 : decode cX8_isOvertaken 118 = .ok (.iconst 0, 1) := by decide +kernel
theorem dX8_isOvertaken_119 : decode cX8_isOvertaken 119 = .ok (.istore 4, 2) := by decide +kernel
theorem dX8_isOvertaken_121 : decode cX8_isOvertaken 121 = .ok (.iload_n 3, 1) := by decide +kernel
theorem dX8_isOvertaken_122 : decode cX8_isOvertaken 122 = .ok (.ifCond .eq 40, 3) := by decide +kernel
theorem dX8_isOvertaken_125 : decode cX8_isOvertaken 125 = .ok (.iload 4, 2) := by decide +kernel
theorem dX8_isOvertaken_127 : decode cX8_isOvertaken 127 = .ok (.ifCond .eq 35, 3) := by decide +kernel
theorem dX8_isOvertaken_130 : decode cX8_isOvertaken 130 = .ok (.aload_n 0, 1) := by decide +kernel
theorem dX8_isOvertaken_131 : decode cX8_isOvertaken 131 = .ok (.iload_n 2, 1) := by decide +kernel
theorem dX8_isOvertaken_132 : decode cX8_isOvertaken 132 = .ok (.bipush 8, 2) := by decide +kernel
theorem dX8_isOvertaken_134 : decode cX8_isOvertaken 134 = .ok (.invokevirtual 228, 3) := by decide +kernel
theorem dX8_isOvertaken_137 : decode cX8_isOvertaken 137 = .ok (.iconst (-1), 1) := by decide +kernel
theorem dX8_isOvertaken_138 : decode cX8_isOvertaken 138 = .ok (.if_icmp .eq 24, 3) := by decide +kernel
theorem dX8_isOvertaken_141 : decode cX8_isOvertaken 141 = .ok (.aload_n 0, 1) := by decide +kernel
theorem dX8_isOvertaken_142 : decode cX8_isOvertaken 142 = .ok (.iload_n 1, 1) := by decide +kernel
theorem dX8_isOvertaken_143 : decode cX8_isOvertaken 143 = .ok (.bipush 8, 2) := by decide +kernel
theorem dX8_isOvertaken_145 : decode cX8_isOvertaken 145 = .ok (.invokevirtual 228, 3) := by decide +kernel
theorem dX8_isOvertaken_148 : decode cX8_isOvertaken 148 = .ok (.aload_n 0, 1) := by decide +kernel
theorem dX8_isOvertaken_149 : decode cX8_isOvertaken 149 = .ok (.iload_n 2, 1) := by decide +kernel
theorem dX8_isOvertaken_150 : decode cX8_isOvertaken 150 = .ok (.bipush 8, 2) := by decide +kernel
theorem dX8_isOvertaken_152 : decode cX8_isOvertaken 152 = .ok (.invokevirtual 228, 3) := by decide +kernel
theorem dX8_isOvertaken_155 : decode cX8_isOvertaken 155 = .ok (.if_icmp .le 7, 3) := by decide +kernel
theorem dX8_isOvertaken_158 : decode cX8_isOvertaken 158 = .ok (.iconst 1, 1) := by decide +kernel
theorem dX8_isOvertaken_159 : decode cX8_isOvertaken 159 = .ok (.goto 4, 3) := by decide +kernel
theorem dX8_isOvertaken_162 : decode cX8_isOvertaken 162 = .ok (.iconst 0, 1) := by decide +kernel
theorem dX8_isOvertaken_163 : decode cX8_isOvertaken 163 = .ok (.ireturn, 1) := by decide +kernel
set_option maxRecDepth 20000 in
set_option maxHeartbeats 4000000 in
theorem vX8_isOvertaken_0 {l : Launch} {x : CX} {a0 : Nat} {x1 : Int32} {x2 : Int32} {h : PH} {rc rs n0 : Nat} {Q : Option Value → PH → Prop} {X : String → PH → Prop}
    (K : ((hK h a0).1 = 8) ∧ ∃ (q1 : Int32 → PH → Prop), CI l x mX8_of 0 0 0 [.ref a0, .int x1, .int 2] h q1 ∧ ∀ (r5 : Int32) (h4 : PH), q1 r5 h4 → ((hK h4 a0).1 = 8) ∧ ∃ (q6 : Int32 → PH → Prop), CI l x mX8_of 0 0 0 [.ref a0, .int x2, .int 2] h4 q6 ∧ ∀ (r10 : Int32) (h9 : PH), q6 r10 h9 → ((¬ r5 = r10 → Gm l x mX8_isOvertaken 1 78 [(0, .ref a0), (1, .int x1), (2, .int x2)] [.int 0] h9 rc rs n0 Q X) ∧ (r5 = r10 → ((hK h9 a0).1 = 8) ∧ ∃ (q12 : Int32 → PH → Prop), CI l x mX8_of 0 0 0 [.ref a0, .int x1, .int 0] h9 q12 ∧ ∀ (r16 : Int32) (h15 : PH), q12 r16 h15 → ((hK h15 a0).1 = 8) ∧ ∃ (q17 : Int32 → PH → Prop), CI l x mX8_of 0 0 0 [.ref a0, .int x2, .int 0] h15 q17 ∧ ∀ (r21 : Int32) (h20 : PH), q17 r21 h20 → ((¬ r16 = r21 → Gm l x mX8_isOvertaken 1 78 [(0, .ref a0), (1, .int x1), (2, .int x2)] [.int 0] h20 rc rs n0 Q X) ∧ (r16 = r21 → ((hK h20 a0).1 = 8) ∧ ∃ (q23 : Int32 → PH → Prop), CI l x mX8_of 0 0 0 [.ref a0, .int x1, .int 3] h20 q23 ∧ ∀ (r27 : Int32) (h26 : PH), q23 r27 h26 → ((hK h26 a0).1 = 8) ∧ ∃ (q28 : Int32 → PH → Prop), CI l x mX8_of 0 0 0 [.ref a0, .int x1, .int 2] h26 q28 ∧ ∀ (r32 : Int32) (h31 : PH), q28 r32 h31 → ((hK h31 a0).1 = 8) ∧ ∃ (q34 : Int32 → PH → Prop), CI l x mX8_of 0 0 0 [.ref a0, .int x2, .int 3] h31 q34 ∧ ∀ (r38 : Int32) (h37 : PH), q34 r38 h37 → ((hK h37 a0).1 = 8) ∧ ∃ (q39 : Int32 → PH → Prop), CI l x mX8_of 0 0 0 [.ref a0, .int x2, .int 2] h37 q39 ∧ ∀ (r43 : Int32) (h42 : PH), q39 r43 h42 → ((¬ (if r27 ≤ r32 then 0 else 1 : Int32) = (if r38 ≤ r43 then 0 else 1 : Int32) → Gm l x mX8_isOvertaken 1 78 [(0, .ref a0), (1, .int x1), (2, .int x2)] [.int 0] h42 rc rs n0 Q X) ∧ ((if r27 ≤ r32 then 0 else 1 : Int32) = (if r38 ≤ r43 then 0 else 1 : Int32) → Gm l x mX8_isOvertaken 1 78 [(0, .ref a0), (1, .int x1), (2, .int x2)] [.int 1] h42 rc rs n0 Q X))))))) :
    Gm l x mX8_isOvertaken 1 0 [(0, .ref a0), (1, .int x1), (2, .int x2)] [] h rc rs n0 Q X := by
  refine g_aload_n dX8_isOvertaken_0 rfl 0 rfl ?_
  refine g_iload_n dX8_isOvertaken_1 rfl 1 rfl ?_
  refine g_iconst (v := 2) dX8_isOvertaken_2 (by decide) ?_
  obtain ⟨e3, K⟩ := K
  obtain ⟨q1, C2, K⟩ := K
  refine g_callV (M' := mX8_of) (b := a0) (As := [.int x1, .int 2]) (rest := []) (rc' := rc) (rs' := rs) dX8_isOvertaken_3 bw_1413 bw_1415 bs_52 bw_9 bw_1416 ⟨by decide +kernel, by decide +kernel, show (parseMethodDescriptor mX8_of.1.desc).map (fun d => d.parameters.length) = some 2 by decide +kernel⟩ (by decide) (by decide) (Nat.le_of_ble_eq_true rfl) fc_8 (by decide) rfl e3 C2 (Nat.le_of_eq (Nat.add_zero _)) (Nat.le_of_eq (Nat.add_zero _)) (fun _ _ h => h) ?_
  rintro _ h4 ⟨r5, rfl, K1⟩ -
  replace K := K r5 h4 K1
  show Gm l x mX8_isOvertaken 1 6 [(0, .ref a0), (1, .int x1), (2, .int x2)] [.int r5] h4 rc rs n0 Q X
  refine g_aload_n dX8_isOvertaken_6 rfl 0 rfl ?_
  refine g_iload_n dX8_isOvertaken_7 rfl 2 rfl ?_
  refine g_iconst (v := 2) dX8_isOvertaken_8 (by decide) ?_
  obtain ⟨e8, K⟩ := K
  obtain ⟨q6, C7, K⟩ := K
  refine g_callV (M' := mX8_of) (b := a0) (As := [.int x2, .int 2]) (rest := [.int r5]) (rc' := rc) (rs' := rs) dX8_isOvertaken_9 bw_1413 bw_1415 bs_52 bw_9 bw_1416 ⟨by decide +kernel, by decide +kernel, show (parseMethodDescriptor mX8_of.1.desc).map (fun d => d.parameters.length) = some 2 by decide +kernel⟩ (by decide) (by decide) (Nat.le_of_ble_eq_true rfl) fc_8 (by decide) rfl e8 C7 (Nat.le_of_eq (Nat.add_zero _)) (Nat.le_of_eq (Nat.add_zero _)) (fun _ _ h => h) ?_
  rintro _ h9 ⟨r10, rfl, K1⟩ -
  replace K := K r10 h9 K1
  show Gm l x mX8_isOvertaken 1 12 [(0, .ref a0), (1, .int x1), (2, .int x2)] [.int r10, .int r5] h9 rc rs n0 Q X
  refine g_icmp_ne (tgt := 77) dX8_isOvertaken_12 (by decide) (fun c11 => ?_) (fun c11 => ?_)
  · replace K := K.1 c11
    refine g_iconst (v := 0) dX8_isOvertaken_77 (by decide) ?_
    exact K
  · replace K := K.2 c11
    refine g_aload_n dX8_isOvertaken_15 rfl 0 rfl ?_
    refine g_iload_n dX8_isOvertaken_16 rfl 1 rfl ?_
    refine g_iconst (v := 0) dX8_isOvertaken_17 (by decide) ?_
    obtain ⟨e14, K⟩ := K
    obtain ⟨q12, C13, K⟩ := K
    refine g_callV (M' := mX8_of) (b := a0) (As := [.int x1, .int 0]) (rest := []) (rc' := rc) (rs' := rs) dX8_isOvertaken_18 bw_1413 bw_1415 bs_52 bw_9 bw_1416 ⟨by decide +kernel, by decide +kernel, show (parseMethodDescriptor mX8_of.1.desc).map (fun d => d.parameters.length) = some 2 by decide +kernel⟩ (by decide) (by decide) (Nat.le_of_ble_eq_true rfl) fc_8 (by decide) rfl e14 C13 (Nat.le_of_eq (Nat.add_zero _)) (Nat.le_of_eq (Nat.add_zero _)) (fun _ _ h => h) ?_
    rintro _ h15 ⟨r16, rfl, K1⟩ -
    replace K := K r16 h15 K1
    show Gm l x mX8_isOvertaken 1 21 [(0, .ref a0), (1, .int x1), (2, .int x2)] [.int r16] h15 rc rs n0 Q X
    refine g_aload_n dX8_isOvertaken_21 rfl 0 rfl ?_
    refine g_iload_n dX8_isOvertaken_22 rfl 2 rfl ?_
    refine g_iconst (v := 0) dX8_isOvertaken_23 (by decide) ?_
    obtain ⟨e19, K⟩ := K
    obtain ⟨q17, C18, K⟩ := K
    refine g_callV (M' := mX8_of) (b := a0) (As := [.int x2, .int 0]) (rest := [.int r16]) (rc' := rc) (rs' := rs) dX8_isOvertaken_24 bw_1413 bw_1415 bs_52 bw_9 bw_1416 ⟨by decide +kernel, by decide +kernel, show (parseMethodDescriptor mX8_of.1.desc).map (fun d => d.parameters.length) = some 2 by decide +kernel⟩ (by decide) (by decide) (Nat.le_of_ble_eq_true rfl) fc_8 (by decide) rfl e19 C18 (Nat.le_of_eq (Nat.add_zero _)) (Nat.le_of_eq (Nat.add_zero _)) (fun _ _ h => h) ?_
    rintro _ h20 ⟨r21, rfl, K1⟩ -
    replace K := K r21 h20 K1
    show Gm l x mX8_isOvertaken 1 27 [(0, .ref a0), (1, .int x1), (2, .int x2)] [.int r21, .int r16] h20 rc rs n0 Q X
    refine g_icmp_ne (tgt := 77) dX8_isOvertaken_27 (by decide) (fun c22 => ?_) (fun c22 => ?_)
    · replace K := K.1 c22
      refine g_iconst (v := 0) dX8_isOvertaken_77 (by decide) ?_
      exact K
    · replace K := K.2 c22
      refine g_aload_n dX8_isOvertaken_30 rfl 0 rfl ?_
      refine g_iload_n dX8_isOvertaken_31 rfl 1 rfl ?_
      refine g_iconst (v := 3) dX8_isOvertaken_32 (by decide) ?_
      obtain ⟨e25, K⟩ := K
      obtain ⟨q23, C24, K⟩ := K
      refine g_callV (M' := mX8_of) (b := a0) (As := [.int x1, .int 3]) (rest := []) (rc' := rc) (rs' := rs) dX8_isOvertaken_33 bw_1413 bw_1415 bs_52 bw_9 bw_1416 ⟨by decide +kernel, by decide +kernel, show (parseMethodDescriptor mX8_of.1.desc).map (fun d => d.parameters.length) = some 2 by decide +kernel⟩ (by decide) (by decide) (Nat.le_of_ble_eq_true rfl) fc_8 (by decide) rfl e25 C24 (Nat.le_of_eq (Nat.add_zero _)) (Nat.le_of_eq (Nat.add_zero _)) (fun _ _ h => h) ?_
      rintro _ h26 ⟨r27, rfl, K1⟩ -
      replace K := K r27 h26 K1
      show Gm l x mX8_isOvertaken 1 36 [(0, .ref a0), (1, .int x1), (2, .int x2)] [.int r27] h26 rc rs n0 Q X
      refine g_aload_n dX8_isOvertaken_36 rfl 0 rfl ?_
      refine g_iload_n dX8_isOvertaken_37 rfl 1 rfl ?_
      refine g_iconst (v := 2) dX8_isOvertaken_38 (by decide) ?_
      obtain ⟨e30, K⟩ := K
      obtain ⟨q28, C29, K⟩ := K
      refine g_callV (M' := mX8_of) (b := a0) (As := [.int x1, .int 2]) (rest := [.int r27]) (rc' := rc) (rs' := rs) dX8_isOvertaken_39 bw_1413 bw_1415 bs_52 bw_9 bw_1416 ⟨by decide +kernel, by decide +kernel, show (parseMethodDescriptor mX8_of.1.desc).map (fun d => d.parameters.length) = some 2 by decide +kernel⟩ (by decide) (by decide) (Nat.le_of_ble_eq_true rfl) fc_8 (by decide) rfl e30 C29 (Nat.le_of_eq (Nat.add_zero _)) (Nat.le_of_eq (Nat.add_zero _)) (fun _ _ h => h) ?_
      rintro _ h31 ⟨r32, rfl, K1⟩ -
      replace K := K r32 h31 K1
      show Gm l x mX8_isOvertaken 1 42 [(0, .ref a0), (1, .int x1), (2, .int x2)] [.int r32, .int r27] h31 rc rs n0 Q X
      have KJ : Gm l x mX8_isOvertaken 1 50 [(0, .ref a0), (1, .int x1), (2, .int x2)] [.int (if r27 ≤ r32 then 0 else 1 : Int32)] h31 rc rs n0 Q X := by
        refine g_aload_n dX8_isOvertaken_50 rfl 0 rfl ?_
        refine g_iload_n dX8_isOvertaken_51 rfl 2 rfl ?_
        refine g_iconst (v := 3) dX8_isOvertaken_52 (by decide) ?_
        obtain ⟨e36, K⟩ := K
        obtain ⟨q34, C35, K⟩ := K
        refine g_callV (M' := mX8_of) (b := a0) (As := [.int x2, .int 3]) (rest := [.int (if r27 ≤ r32 then 0 else 1 : Int32)]) (rc' := rc) (rs' := rs) dX8_isOvertaken_53 bw_1413 bw_1415 bs_52 bw_9 bw_1416 ⟨by decide +kernel, by decide +kernel, show (parseMethodDescriptor mX8_of.1.desc).map (fun d => d.parameters.length) = some 2 by decide +kernel⟩ (by decide) (by decide) (Nat.le_of_ble_eq_true rfl) fc_8 (by decide) rfl e36 C35 (Nat.le_of_eq (Nat.add_zero _)) (Nat.le_of_eq (Nat.add_zero _)) (fun _ _ h => h) ?_
        rintro _ h37 ⟨r38, rfl, K1⟩ -
        replace K := K r38 h37 K1
        show Gm l x mX8_isOvertaken 1 56 [(0, .ref a0), (1, .int x1), (2, .int x2)] [.int r38, .int (if r27 ≤ r32 then 0 else 1 : Int32)] h37 rc rs n0 Q X
        refine g_aload_n dX8_isOvertaken_56 rfl 0 rfl ?_
        refine g_iload_n dX8_isOvertaken_57 rfl 2 rfl ?_
        refine g_iconst (v := 2) dX8_isOvertaken_58 (by decide) ?_
        obtain ⟨e41, K⟩ := K
        obtain ⟨q39, C40, K⟩ := K
        refine g_callV (M' := mX8_of) (b := a0) (As := [.int x2, .int 2]) (rest := [.int r38, .int (if r27 ≤ r32 then 0 else 1 : Int32)]) (rc' := rc) (rs' := rs) dX8_isOvertaken_59 bw_1413 bw_1415 bs_52 bw_9 bw_1416 ⟨by decide +kernel, by decide +kernel, show (parseMethodDescriptor mX8_of.1.desc).map (fun d => d.parameters.length) = some 2 by decide +kernel⟩ (by decide) (by decide) (Nat.le_of_ble_eq_true rfl) fc_8 (by decide) rfl e41 C40 (Nat.le_of_eq (Nat.add_zero _)) (Nat.le_of_eq (Nat.add_zero _)) (fun _ _ h => h) ?_
        rintro _ h42 ⟨r43, rfl, K1⟩ -
        replace K := K r43 h42 K1
        show Gm l x mX8_isOvertaken 1 62 [(0, .ref a0), (1, .int x1), (2, .int x2)] [.int r43, .int r38, .int (if r27 ≤ r32 then 0 else 1 : Int32)] h42 rc rs n0 Q X
        have KJ : Gm l x mX8_isOvertaken 1 70 [(0, .ref a0), (1, .int x1), (2, .int x2)] [.int (if r38 ≤ r43 then 0 else 1 : Int32), .int (if r27 ≤ r32 then 0 else 1 : Int32)] h42 rc rs n0 Q X := by
          refine g_icmp_ne (tgt := 77) dX8_isOvertaken_70 (by decide) (fun c45 => ?_) (fun c45 => ?_)
          · replace K := K.1 c45
            refine g_iconst (v := 0) dX8_isOvertaken_77 (by decide) ?_
            exact K
          · replace K := K.2 c45
            refine g_iconst (v := 1) dX8_isOvertaken_73 (by decide) ?_
            refine g_goto (tgt := 78) dX8_isOvertaken_74 (by decide) ?_
            exact K
        refine g_icmp_le (tgt := 69) dX8_isOvertaken_62 (by decide) (fun c44 => ?_) (fun c44 => ?_)
        · refine g_iconst (v := 0) dX8_isOvertaken_69 (by decide) ?_
          first | (simp only [if_pos c44] at KJ; exact KJ) | (simp only [if_pos c44, ite_true, ite_false, eq_self] at KJ; exact KJ) | (simp only [if_pos c44] at KJ ⊢; exact KJ) | exact KJ
        · refine g_iconst (v := 1) dX8_isOvertaken_65 (by decide) ?_
          refine g_goto (tgt := 70) dX8_isOvertaken_66 (by decide) ?_
          first | (simp only [if_neg c44] at KJ; exact KJ) | (simp only [if_neg c44, ite_true, ite_false, eq_self] at KJ; exact KJ) | (simp only [if_neg c44] at KJ ⊢; exact KJ) | exact KJ
      refine g_icmp_le (tgt := 49) dX8_isOvertaken_42 (by decide) (fun c33 => ?_) (fun c33 => ?_)
      · refine g_iconst (v := 0) dX8_isOvertaken_49 (by decide) ?_
        first | (simp only [if_pos c33] at KJ; exact KJ) | (simp only [if_pos c33, ite_true, ite_false, eq_self] at KJ; exact KJ) | (simp only [if_pos c33] at KJ ⊢; exact KJ) | exact KJ
      · refine g_iconst (v := 1) dX8_isOvertaken_45 (by decide) ?_
        refine g_goto (tgt := 50) dX8_isOvertaken_46 (by decide) ?_
        first | (simp only [if_neg c33] at KJ; exact KJ) | (simp only [if_neg c33, ite_true, ite_false, eq_self] at KJ; exact KJ) | (simp only [if_neg c33] at KJ ⊢; exact KJ) | exact KJ
set_option maxRecDepth 20000 in
set_option maxHeartbeats 4000000 in
theorem vX8_isOvertaken_78 {l : Launch} {x : CX} {a0 : Nat} {x1 : Int32} {x2 : Int32} {s0 : Int32} {h : PH} {rc rs n0 : Nat} {Q : Option Value → PH → Prop} {X : String → PH → Prop}
    (K : ((hK h a0).1 = 8) ∧ ∃ (q1 : Int32 → PH → Prop), CI l x mX8_of 0 0 0 [.ref a0, .int x1, .int 1] h q1 ∧ ∀ (r5 : Int32) (h4 : PH), q1 r5 h4 → ((hK h4 a0).1 = 8) ∧ ∃ (q6 : Int32 → PH → Prop), CI l x mX8_of 0 0 0 [.ref a0, .int x2, .int 1] h4 q6 ∧ ∀ (r10 : Int32) (h9 : PH), q6 r10 h9 → ((r5 < r10 → ((s0 = 0 → ((0 : Int32) = 0 ∨ (0 : Int32) = 1) ∧ Q (some (.int 0)) h9) ∧ (¬ s0 = 0 → ((hK h9 a0).1 = 8) ∧ ∃ (q14 : Int32 → PH → Prop), CI l x mX8_of 0 0 0 [.ref a0, .int x2, .int 8] h9 q14 ∧ ∀ (r18 : Int32) (h17 : PH), q14 r18 h17 → ((r18 = (-1) → ((0 : Int32) = 0 ∨ (0 : Int32) = 1) ∧ Q (some (.int 0)) h17) ∧ (¬ r18 = (-1) → ((hK h17 a0).1 = 8) ∧ ∃ (q20 : Int32 → PH → Prop), CI l x mX8_of 0 0 0 [.ref a0, .int x1, .int 8] h17 q20 ∧ ∀ (r24 : Int32) (h23 : PH), q20 r24 h23 → ((hK h23 a0).1 = 8) ∧ ∃ (q25 : Int32 → PH → Prop), CI l x mX8_of 0 0 0 [.ref a0, .int x2, .int 8] h23 q25 ∧ ∀ (r29 : Int32) (h28 : PH), q25 r29 h28 → (((if r24 ≤ r29 then 0 else 1 : Int32) : Int32) = 0 ∨ ((if r24 ≤ r29 then 0 else 1 : Int32) : Int32) = 1) ∧ Q (some (.int (if r24 ≤ r29 then 0 else 1 : Int32))) h28))))) ∧ (¬ r5 < r10 → ((hK h9 a0).1 = 8) ∧ ∃ (q31 : Int32 → PH → Prop), CI l x mX8_of 0 0 0 [.ref a0, .int x1, .int 1] h9 q31 ∧ ∀ (r35 : Int32) (h34 : PH), q31 r35 h34 → ((hK h34 a0).1 = 8) ∧ ∃ (q36 : Int32 → PH → Prop), CI l x mX8_of 0 0 0 [.ref a0, .int x2, .int 1] h34 q36 ∧ ∀ (r40 : Int32) (h39 : PH), q36 r40 h39 → ∀ (y43 : Int32), y43 = (if r35 = r40 then (if x2 ≤ x1 then 0 else 1 : Int32) else 0 : Int32) → ((s0 = 0 → ((0 : Int32) = 0 ∨ (0 : Int32) = 1) ∧ Q (some (.int 0)) h39) ∧ (¬ s0 = 0 → ((y43 = 0 → ((0 : Int32) = 0 ∨ (0 : Int32) = 1) ∧ Q (some (.int 0)) h39) ∧ (¬ y43 = 0 → ((hK h39 a0).1 = 8) ∧ ∃ (q47 : Int32 → PH → Prop), CI l x mX8_of 0 0 0 [.ref a0, .int x2, .int 8] h39 q47 ∧ ∀ (r51 : Int32) (h50 : PH), q47 r51 h50 → ((r51 = (-1) → ((0 : Int32) = 0 ∨ (0 : Int32) = 1) ∧ Q (some (.int 0)) h50) ∧ (¬ r51 = (-1) → ((hK h50 a0).1 = 8) ∧ ∃ (q53 : Int32 → PH → Prop), CI l x mX8_of 0 0 0 [.ref a0, .int x1, .int 8] h50 q53 ∧ ∀ (r57 : Int32) (h56 : PH), q53 r57 h56 → ((hK h56 a0).1 = 8) ∧ ∃ (q58 : Int32 → PH → Prop), CI l x mX8_of 0 0 0 [.ref a0, .int x2, .int 8] h56 q58 ∧ ∀ (r62 : Int32) (h61 : PH), q58 r62 h61 → (((if r57 ≤ r62 then 0 else 1 : Int32) : Int32) = 0 ∨ ((if r57 ≤ r62 then 0 else 1 : Int32) : Int32) = 1) ∧ Q (some (.int (if r57 ≤ r62 then 0 else 1 : Int32))) h61))))))))) :
    Gm l x mX8_isOvertaken 1 78 [(0, .ref a0), (1, .int x1), (2, .int x2)] [.int s0] h rc rs n0 Q X := by
  refine g_istore_n (lv' := [(0, .ref a0), (1, .int x1), (2, .int x2), (3, .int s0)]) dX8_isOvertaken_78 rfl (by decide) rfl ?_
  refine g_aload_n dX8_isOvertaken_79 rfl 0 rfl ?_
  refine g_iload_n dX8_isOvertaken_80 rfl 1 rfl ?_
  refine g_iconst (v := 1) dX8_isOvertaken_81 (by decide) ?_
  obtain ⟨e3, K⟩ := K
  obtain ⟨q1, C2, K⟩ := K
  refine g_callV (M' := mX8_of) (b := a0) (As := [.int x1, .int 1]) (rest := []) (rc' := rc) (rs' := rs) dX8_isOvertaken_82 bw_1413 bw_1415 bs_52 bw_9 bw_1416 ⟨by decide +kernel, by decide +kernel, show (parseMethodDescriptor mX8_of.1.desc).map (fun d => d.parameters.length) = some 2 by decide +kernel⟩ (by decide) (by decide) (Nat.le_of_ble_eq_true rfl) fc_8 (by decide) rfl e3 C2 (Nat.le_of_eq (Nat.add_zero _)) (Nat.le_of_eq (Nat.add_zero _)) (fun _ _ h => h) ?_
  rintro _ h4 ⟨r5, rfl, K1⟩ -
  replace K := K r5 h4 K1
  show Gm l x mX8_isOvertaken 1 85 [(0, .ref a0), (1, .int x1), (2, .int x2), (3, .int s0)] [.int r5] h4 rc rs n0 Q X
  refine g_aload_n dX8_isOvertaken_85 rfl 0 rfl ?_
  refine g_iload_n dX8_isOvertaken_86 rfl 2 rfl ?_
  refine g_iconst (v := 1) dX8_isOvertaken_87 (by decide) ?_
  obtain ⟨e8, K⟩ := K
  obtain ⟨q6, C7, K⟩ := K
  refine g_callV (M' := mX8_of) (b := a0) (As := [.int x2, .int 1]) (rest := [.int r5]) (rc' := rc) (rs' := rs) dX8_isOvertaken_88 bw_1413 bw_1415 bs_52 bw_9 bw_1416 ⟨by decide +kernel, by decide +kernel, show (parseMethodDescriptor mX8_of.1.desc).map (fun d => d.parameters.length) = some 2 by decide +kernel⟩ (by decide) (by decide) (Nat.le_of_ble_eq_true rfl) fc_8 (by decide) rfl e8 C7 (Nat.le_of_eq (Nat.add_zero _)) (Nat.le_of_eq (Nat.add_zero _)) (fun _ _ h => h) ?_
  rintro _ h9 ⟨r10, rfl, K1⟩ -
  replace K := K r10 h9 K1
  show Gm l x mX8_isOvertaken 1 91 [(0, .ref a0), (1, .int x1), (2, .int x2), (3, .int s0)] [.int r10, .int r5] h9 rc rs n0 Q X
  refine g_icmp_lt (tgt := 114) dX8_isOvertaken_91 (by decide) (fun c11 => ?_) (fun c11 => ?_)
  · replace K := K.1 c11
    refine g_iconst (v := 1) dX8_isOvertaken_114 (by decide) ?_
    refine g_goto (tgt := 119) dX8_isOvertaken_115 (by decide) ?_
    refine g_istore (lv' := [(0, .ref a0), (1, .int x1), (2, .int x2), (3, .int s0), (4, .int 1)]) dX8_isOvertaken_119 (by decide) rfl ?_
    refine g_iload_n dX8_isOvertaken_121 rfl 3 rfl ?_
    refine g_if_eq (tgt := 162) dX8_isOvertaken_122 (by decide) (fun c12 => ?_) (fun c12 => ?_)
    · replace K := K.1 c12
      refine g_iconst (v := 0) dX8_isOvertaken_162 (by decide) ?_
      exact g_zret dX8_isOvertaken_163 rfl K.1 K.2
    · replace K := K.2 c12
      refine g_iload dX8_isOvertaken_125 4 rfl ?_
      refine g_if_eq (tgt := 162) dX8_isOvertaken_127 (by decide) (fun c13 => ?_) (fun c13 => ?_)
      · exact absurd c13 (by decide)
      · refine g_aload_n dX8_isOvertaken_130 rfl 0 rfl ?_
        refine g_iload_n dX8_isOvertaken_131 rfl 2 rfl ?_
        refine g_bipush (v := 8) dX8_isOvertaken_132 (by decide) ?_
        obtain ⟨e16, K⟩ := K
        obtain ⟨q14, C15, K⟩ := K
        refine g_callV (M' := mX8_of) (b := a0) (As := [.int x2, .int 8]) (rest := []) (rc' := rc) (rs' := rs) dX8_isOvertaken_134 bw_1413 bw_1415 bs_52 bw_9 bw_1416 ⟨by decide +kernel, by decide +kernel, show (parseMethodDescriptor mX8_of.1.desc).map (fun d => d.parameters.length) = some 2 by decide +kernel⟩ (by decide) (by decide) (Nat.le_of_ble_eq_true rfl) fc_8 (by decide) rfl e16 C15 (Nat.le_of_eq (Nat.add_zero _)) (Nat.le_of_eq (Nat.add_zero _)) (fun _ _ h => h) ?_
        rintro _ h17 ⟨r18, rfl, K1⟩ -
        replace K := K r18 h17 K1
        show Gm l x mX8_isOvertaken 1 137 [(0, .ref a0), (1, .int x1), (2, .int x2), (3, .int s0), (4, .int 1)] [.int r18] h17 rc rs n0 Q X
        refine g_iconst (v := (-1)) dX8_isOvertaken_137 (by decide) ?_
        refine g_icmp_eq (tgt := 162) dX8_isOvertaken_138 (by decide) (fun c19 => ?_) (fun c19 => ?_)
        · replace K := K.1 c19
          refine g_iconst (v := 0) dX8_isOvertaken_162 (by decide) ?_
          exact g_zret dX8_isOvertaken_163 rfl K.1 K.2
        · replace K := K.2 c19
          refine g_aload_n dX8_isOvertaken_141 rfl 0 rfl ?_
          refine g_iload_n dX8_isOvertaken_142 rfl 1 rfl ?_
          refine g_bipush (v := 8) dX8_isOvertaken_143 (by decide) ?_
          obtain ⟨e22, K⟩ := K
          obtain ⟨q20, C21, K⟩ := K
          refine g_callV (M' := mX8_of) (b := a0) (As := [.int x1, .int 8]) (rest := []) (rc' := rc) (rs' := rs) dX8_isOvertaken_145 bw_1413 bw_1415 bs_52 bw_9 bw_1416 ⟨by decide +kernel, by decide +kernel, show (parseMethodDescriptor mX8_of.1.desc).map (fun d => d.parameters.length) = some 2 by decide +kernel⟩ (by decide) (by decide) (Nat.le_of_ble_eq_true rfl) fc_8 (by decide) rfl e22 C21 (Nat.le_of_eq (Nat.add_zero _)) (Nat.le_of_eq (Nat.add_zero _)) (fun _ _ h => h) ?_
          rintro _ h23 ⟨r24, rfl, K1⟩ -
          replace K := K r24 h23 K1
          show Gm l x mX8_isOvertaken 1 148 [(0, .ref a0), (1, .int x1), (2, .int x2), (3, .int s0), (4, .int 1)] [.int r24] h23 rc rs n0 Q X
          refine g_aload_n dX8_isOvertaken_148 rfl 0 rfl ?_
          refine g_iload_n dX8_isOvertaken_149 rfl 2 rfl ?_
          refine g_bipush (v := 8) dX8_isOvertaken_150 (by decide) ?_
          obtain ⟨e27, K⟩ := K
          obtain ⟨q25, C26, K⟩ := K
          refine g_callV (M' := mX8_of) (b := a0) (As := [.int x2, .int 8]) (rest := [.int r24]) (rc' := rc) (rs' := rs) dX8_isOvertaken_152 bw_1413 bw_1415 bs_52 bw_9 bw_1416 ⟨by decide +kernel, by decide +kernel, show (parseMethodDescriptor mX8_of.1.desc).map (fun d => d.parameters.length) = some 2 by decide +kernel⟩ (by decide) (by decide) (Nat.le_of_ble_eq_true rfl) fc_8 (by decide) rfl e27 C26 (Nat.le_of_eq (Nat.add_zero _)) (Nat.le_of_eq (Nat.add_zero _)) (fun _ _ h => h) ?_
          rintro _ h28 ⟨r29, rfl, K1⟩ -
          replace K := K r29 h28 K1
          show Gm l x mX8_isOvertaken 1 155 [(0, .ref a0), (1, .int x1), (2, .int x2), (3, .int s0), (4, .int 1)] [.int r29, .int r24] h28 rc rs n0 Q X
          have KJ : Gm l x mX8_isOvertaken 1 163 [(0, .ref a0), (1, .int x1), (2, .int x2), (3, .int s0), (4, .int 1)] [.int (if r24 ≤ r29 then 0 else 1 : Int32)] h28 rc rs n0 Q X := by
            exact g_zret dX8_isOvertaken_163 rfl K.1 K.2
          refine g_icmp_le (tgt := 162) dX8_isOvertaken_155 (by decide) (fun c30 => ?_) (fun c30 => ?_)
          · refine g_iconst (v := 0) dX8_isOvertaken_162 (by decide) ?_
            first | (simp only [if_pos c30] at KJ; exact KJ) | (simp only [if_pos c30, ite_true, ite_false, eq_self] at KJ; exact KJ) | (simp only [if_pos c30] at KJ ⊢; exact KJ) | exact KJ
          · refine g_iconst (v := 1) dX8_isOvertaken_158 (by decide) ?_
            refine g_goto (tgt := 163) dX8_isOvertaken_159 (by decide) ?_
            first | (simp only [if_neg c30] at KJ; exact KJ) | (simp only [if_neg c30, ite_true, ite_false, eq_self] at KJ; exact KJ) | (simp only [if_neg c30] at KJ ⊢; exact KJ) | exact KJ
  · replace K := K.2 c11
    refine g_aload_n dX8_isOvertaken_94 rfl 0 rfl ?_
    refine g_iload_n dX8_isOvertaken_95 rfl 1 rfl ?_
    refine g_iconst (v := 1) dX8_isOvertaken_96 (by decide) ?_
    obtain ⟨e33, K⟩ := K
    obtain ⟨q31, C32, K⟩ := K
    refine g_callV (M' := mX8_of) (b := a0) (As := [.int x1, .int 1]) (rest := []) (rc' := rc) (rs' := rs) dX8_isOvertaken_97 bw_1413 bw_1415 bs_52 bw_9 bw_1416 ⟨by decide +kernel, by decide +kernel, show (parseMethodDescriptor mX8_of.1.desc).map (fun d => d.parameters.length) = some 2 by decide +kernel⟩ (by decide) (by decide) (Nat.le_of_ble_eq_true rfl) fc_8 (by decide) rfl e33 C32 (Nat.le_of_eq (Nat.add_zero _)) (Nat.le_of_eq (Nat.add_zero _)) (fun _ _ h => h) ?_
    rintro _ h34 ⟨r35, rfl, K1⟩ -
    replace K := K r35 h34 K1
    show Gm l x mX8_isOvertaken 1 100 [(0, .ref a0), (1, .int x1), (2, .int x2), (3, .int s0)] [.int r35] h34 rc rs n0 Q X
    refine g_aload_n dX8_isOvertaken_100 rfl 0 rfl ?_
    refine g_iload_n dX8_isOvertaken_101 rfl 2 rfl ?_
    refine g_iconst (v := 1) dX8_isOvertaken_102 (by decide) ?_
    obtain ⟨e38, K⟩ := K
    obtain ⟨q36, C37, K⟩ := K
    refine g_callV (M' := mX8_of) (b := a0) (As := [.int x2, .int 1]) (rest := [.int r35]) (rc' := rc) (rs' := rs) dX8_isOvertaken_103 bw_1413 bw_1415 bs_52 bw_9 bw_1416 ⟨by decide +kernel, by decide +kernel, show (parseMethodDescriptor mX8_of.1.desc).map (fun d => d.parameters.length) = some 2 by decide +kernel⟩ (by decide) (by decide) (Nat.le_of_ble_eq_true rfl) fc_8 (by decide) rfl e38 C37 (Nat.le_of_eq (Nat.add_zero _)) (Nat.le_of_eq (Nat.add_zero _)) (fun _ _ h => h) ?_
    rintro _ h39 ⟨r40, rfl, K1⟩ -
    replace K := K r40 h39 K1
    show Gm l x mX8_isOvertaken 1 106 [(0, .ref a0), (1, .int x1), (2, .int x2), (3, .int s0)] [.int r40, .int r35] h39 rc rs n0 Q X
    have KJ : Gm l x mX8_isOvertaken 1 119 [(0, .ref a0), (1, .int x1), (2, .int x2), (3, .int s0)] [.int (if r35 = r40 then (if x2 ≤ x1 then 0 else 1 : Int32) else 0 : Int32)] h39 rc rs n0 Q X := by
      refine g_nmI (fun y43 e44 => ?_)
      replace K := K y43 e44
      refine g_istore (lv' := [(0, .ref a0), (1, .int x1), (2, .int x2), (3, .int s0), (4, .int y43)]) dX8_isOvertaken_119 (by decide) rfl ?_
      refine g_iload_n dX8_isOvertaken_121 rfl 3 rfl ?_
      refine g_if_eq (tgt := 162) dX8_isOvertaken_122 (by decide) (fun c45 => ?_) (fun c45 => ?_)
      · replace K := K.1 c45
        refine g_iconst (v := 0) dX8_isOvertaken_162 (by decide) ?_
        exact g_zret dX8_isOvertaken_163 rfl K.1 K.2
      · replace K := K.2 c45
        refine g_iload dX8_isOvertaken_125 4 rfl ?_
        refine g_if_eq (tgt := 162) dX8_isOvertaken_127 (by decide) (fun c46 => ?_) (fun c46 => ?_)
        · replace K := K.1 c46
          refine g_iconst (v := 0) dX8_isOvertaken_162 (by decide) ?_
          exact g_zret dX8_isOvertaken_163 rfl K.1 K.2
        · replace K := K.2 c46
          refine g_aload_n dX8_isOvertaken_130 rfl 0 rfl ?_
          refine g_iload_n dX8_isOvertaken_131 rfl 2 rfl ?_
          refine g_bipush (v := 8) dX8_isOvertaken_132 (by decide) ?_
          obtain ⟨e49, K⟩ := K
          obtain ⟨q47, C48, K⟩ := K
          refine g_callV (M' := mX8_of) (b := a0) (As := [.int x2, .int 8]) (rest := []) (rc' := rc) (rs' := rs) dX8_isOvertaken_134 bw_1413 bw_1415 bs_52 bw_9 bw_1416 ⟨by decide +kernel, by decide +kernel, show (parseMethodDescriptor mX8_of.1.desc).map (fun d => d.parameters.length) = some 2 by decide +kernel⟩ (by decide) (by decide) (Nat.le_of_ble_eq_true rfl) fc_8 (by decide) rfl e49 C48 (Nat.le_of_eq (Nat.add_zero _)) (Nat.le_of_eq (Nat.add_zero _)) (fun _ _ h => h) ?_
          rintro _ h50 ⟨r51, rfl, K1⟩ -
          replace K := K r51 h50 K1
          show Gm l x mX8_isOvertaken 1 137 [(0, .ref a0), (1, .int x1), (2, .int x2), (3, .int s0), (4, .int y43)] [.int r51] h50 rc rs n0 Q X
          refine g_iconst (v := (-1)) dX8_isOvertaken_137 (by decide) ?_
          refine g_icmp_eq (tgt := 162) dX8_isOvertaken_138 (by decide) (fun c52 => ?_) (fun c52 => ?_)
          · replace K := K.1 c52
            refine g_iconst (v := 0) dX8_isOvertaken_162 (by decide) ?_
            exact g_zret dX8_isOvertaken_163 rfl K.1 K.2
          · replace K := K.2 c52
            refine g_aload_n dX8_isOvertaken_141 rfl 0 rfl ?_
            refine g_iload_n dX8_isOvertaken_142 rfl 1 rfl ?_
            refine g_bipush (v := 8) dX8_isOvertaken_143 (by decide) ?_
            obtain ⟨e55, K⟩ := K
            obtain ⟨q53, C54, K⟩ := K
            refine g_callV (M' := mX8_of) (b := a0) (As := [.int x1, .int 8]) (rest := []) (rc' := rc) (rs' := rs) dX8_isOvertaken_145 bw_1413 bw_1415 bs_52 bw_9 bw_1416 ⟨by decide +kernel, by decide +kernel, show (parseMethodDescriptor mX8_of.1.desc).map (fun d => d.parameters.length) = some 2 by decide +kernel⟩ (by decide) (by decide) (Nat.le_of_ble_eq_true rfl) fc_8 (by decide) rfl e55 C54 (Nat.le_of_eq (Nat.add_zero _)) (Nat.le_of_eq (Nat.add_zero _)) (fun _ _ h => h) ?_
            rintro _ h56 ⟨r57, rfl, K1⟩ -
            replace K := K r57 h56 K1
            show Gm l x mX8_isOvertaken 1 148 [(0, .ref a0), (1, .int x1), (2, .int x2), (3, .int s0), (4, .int y43)] [.int r57] h56 rc rs n0 Q X
            refine g_aload_n dX8_isOvertaken_148 rfl 0 rfl ?_
            refine g_iload_n dX8_isOvertaken_149 rfl 2 rfl ?_
            refine g_bipush (v := 8) dX8_isOvertaken_150 (by decide) ?_
            obtain ⟨e60, K⟩ := K
            obtain ⟨q58, C59, K⟩ := K
            refine g_callV (M' := mX8_of) (b := a0) (As := [.int x2, .int 8]) (rest := [.int r57]) (rc' := rc) (rs' := rs) dX8_isOvertaken_152 bw_1413 bw_1415 bs_52 bw_9 bw_1416 ⟨by decide +kernel, by decide +kernel, show (parseMethodDescriptor mX8_of.1.desc).map (fun d => d.parameters.length) = some 2 by decide +kernel⟩ (by decide) (by decide) (Nat.le_of_ble_eq_true rfl) fc_8 (by decide) rfl e60 C59 (Nat.le_of_eq (Nat.add_zero _)) (Nat.le_of_eq (Nat.add_zero _)) (fun _ _ h => h) ?_
            rintro _ h61 ⟨r62, rfl, K1⟩ -
            replace K := K r62 h61 K1
            show Gm l x mX8_isOvertaken 1 155 [(0, .ref a0), (1, .int x1), (2, .int x2), (3, .int s0), (4, .int y43)] [.int r62, .int r57] h61 rc rs n0 Q X
            have KJ : Gm l x mX8_isOvertaken 1 163 [(0, .ref a0), (1, .int x1), (2, .int x2), (3, .int s0), (4, .int y43)] [.int (if r57 ≤ r62 then 0 else 1 : Int32)] h61 rc rs n0 Q X := by
              exact g_zret dX8_isOvertaken_163 rfl K.1 K.2
            refine g_icmp_le (tgt := 162) dX8_isOvertaken_155 (by decide) (fun c63 => ?_) (fun c63 => ?_)
            · refine g_iconst (v := 0) dX8_isOvertaken_162 (by decide) ?_
              first | (simp only [if_pos c63] at KJ; exact KJ) | (simp only [if_pos c63, ite_true, ite_false, eq_self] at KJ; exact KJ) | (simp only [if_pos c63] at KJ ⊢; exact KJ) | exact KJ
            · refine g_iconst (v := 1) dX8_isOvertaken_158 (by decide) ?_
              refine g_goto (tgt := 163) dX8_isOvertaken_159 (by decide) ?_
              first | (simp only [if_neg c63] at KJ; exact KJ) | (simp only [if_neg c63, ite_true, ite_false, eq_self] at KJ; exact KJ) | (simp only [if_neg c63] at KJ ⊢; exact KJ) | exact KJ
    refine g_icmp_ne (tgt := 118) dX8_isOvertaken_106 (by decide) (fun c41 => ?_) (fun c41 => ?_)
    · refine g_iconst (v := 0) dX8_isOvertaken_118 (by decide) ?_
      first | (simp only [if_neg c41] at KJ; exact KJ) | (simp only [if_neg c41, ite_true, ite_false, eq_self] at KJ; exact KJ) | (simp only [if_neg c41] at KJ ⊢; exact KJ) | exact KJ
    · refine g_iload_n dX8_isOvertaken_109 rfl 1 rfl ?_
      refine g_iload_n dX8_isOvertaken_110 rfl 2 rfl ?_
      refine g_icmp_ge (tgt := 118) dX8_isOvertaken_111 (by decide) (fun c42 => ?_) (fun c42 => ?_)
      · refine g_iconst (v := 0) dX8_isOvertaken_118 (by decide) ?_
        first | (simp only [if_pos c41, if_pos c42] at KJ; exact KJ) | (simp only [if_pos c41, if_pos c42, ite_true, ite_false, eq_self] at KJ; exact KJ) | (simp only [if_pos c41, if_pos c42] at KJ ⊢; exact KJ) | exact KJ
      · refine g_iconst (v := 1) dX8_isOvertaken_114 (by decide) ?_
        refine g_goto (tgt := 119) dX8_isOvertaken_115 (by decide) ?_
        first | (simp only [if_pos c41, if_neg c42] at KJ; exact KJ) | (simp only [if_pos c41, if_neg c42, ite_true, ite_false, eq_self] at KJ; exact KJ) | (simp only [if_pos c41, if_neg c42] at KJ ⊢; exact KJ) | exact KJ
theorem dX8_work_0 : decode cX8_work 0 = .ok (.fconst 0, 1) := by decide +kernel
theorem dX8_work_1 : decode cX8_work 1 = .ok (.fstore_n 1, 1) := by decide +kernel
theorem dX8_work_2 : decode cX8_work 2 = .ok (.iconst 0, 1) := by decide +kernel
theorem dX8_work_3 : decode cX8_work 3 = .ok (.istore_n 2, 1) := by decide +kernel
theorem dX8_work_4 : decode cX8_work 4 = .ok (.iload_n 2, 1) := by decide +kernel
theorem dX8_work_5 : decode cX8_work 5 = .ok (.aload_n 0, 1) := by decide +kernel
theorem dX8_work_6 : decode cX8_work 6 = .ok (.getfield 36, 3) := by decide +kernel
theorem dX8_work_9 : decode cX8_work 9 = .ok (.iconst 1, 1) := by decide +kernel
theorem dX8_work_10 : decode cX8_work 10 = .ok (.iaload, 1) := by decide +kernel
theorem dX8_work_11 : decode cX8_work 11 = .ok (.if_icmp .ge 21, 3) := by decide +kernel
theorem dX8_work_14 : decode cX8_work 14 = .ok (.fload_n 1, 1) := by decide +kernel
theorem dX8_work_15 : decode cX8_work 15 = .ok (.aload_n 0, 1) := by decide +kernel
theorem dX8_work_16 : decode cX8_work 16 = .ok (.iload_n 2, 1) := by decide +kernel
theorem dX8_work_17 : decode cX8_work 17 = .ok (.iconst 5, 1) := by decide +kernel
theorem dX8_work_18 : decode cX8_work 18 = .ok (.invokevirtual 238, 3) := by decide +kernel
theorem dX8_work_21 : decode cX8_work 21 = .ok (.invokestatic 255, 3) := by decide +kernel
theorem dX8_work_24 : decode cX8_work 24 = .ok (.fadd, 1) := by decide +kernel
theorem dX8_work_25 : decode cX8_work 25 = .ok (.fstore_n 1, 1) := by decide +kernel
theorem dX8_work_26 : decode cX8_work 26 = .ok (.iinc 2 1, 3) := by decide +kernel
theorem dX8_work_29 : decode cX8_work 29 = .ok (.goto (-25), 3) := by decide +kernel
theorem dX8_work_32 : decode cX8_work 32 = .ok (.fload_n 1, 1) := by decide +kernel
theorem dX8_work_33 : decode cX8_work 33 = .ok (.freturn, 1) := by decide +kernel
set_option maxRecDepth 20000 in
set_option maxHeartbeats 4000000 in
theorem vX8_work_0 {l : Launch} {x : CX} {a0 : Nat} {h : PH} {rc rs n0 : Nat} {Q : Option Value → PH → Prop} {X : String → PH → Prop}
    (K : Gm l x mX8_work 1 4 [(0, .ref a0), (1, .float FP.fconst0), (2, .int 0)] [] h rc rs n0 Q X) :
    Gm l x mX8_work 1 0 [(0, .ref a0)] [] h rc rs n0 Q X := by
  refine g_fconst0 dX8_work_0 ?_
  refine g_fstore_n (lv' := [(0, .ref a0), (1, .float FP.fconst0)]) dX8_work_1 rfl (by decide) rfl ?_
  refine g_iconst (v := 0) dX8_work_2 (by decide) ?_
  refine g_istore_n (lv' := [(0, .ref a0), (1, .float FP.fconst0), (2, .int 0)]) dX8_work_3 rfl (by decide) rfl ?_
  exact K
set_option maxRecDepth 20000 in
set_option maxHeartbeats 4000000 in
theorem vX8_work_4 {l : Launch} {x : CX} {a0 : Nat} {f1 : UInt32} {x2 : Int32} {h : PH} {rc rs n0 : Nat} {Q : Option Value → PH → Prop} {X : String → PH → Prop}
    (K : ((hK h a0).1 = 8) ∧ ∃ b2, (hR h a0 4 = some b2) ∧ ((hK h b2).1 = 100) ∧ (vp_in 1 (hK h b2).2) ∧ (((hI h b2 (Int32.toNatClampNeg 1)) ≤ x2 → Q (some (.float f1)) h) ∧ (¬ (hI h b2 (Int32.toNatClampNeg 1)) ≤ x2 → ∃ (q7 : Int32 → PH → Prop), CI l x mX8_carOf 0 0 0 [.ref a0, .int x2, .int 5] h q7 ∧ ∀ (r10 : Int32) (h9 : PH), q7 r10 h9 → (vn_sni2f r10 = false) ∧ (vf_n32 (FP.fadd f1 r10.toUInt32)) ∧ Gm l x mX8_work 1 4 [(0, .ref a0), (1, .float (FP.fadd f1 r10.toUInt32)), (2, .int (x2 + 1))] [] h9 rc rs n0 Q X))) :
    Gm l x mX8_work 1 4 [(0, .ref a0), (1, .float f1), (2, .int x2)] [] h rc rs n0 Q X := by
  refine g_iload_n dX8_work_4 rfl 2 rfl ?_
  refine g_aload_n dX8_work_5 rfl 0 rfl ?_
  obtain ⟨e1, b2, e3, K⟩ := K
  refine g_get (c := 8) (k := 4) (v := .ref b2) dX8_work_6 fc_8 (by decide) (by decide) bw_1202 (congrArg pr e3) e1 ?_
  refine g_iconst (v := 1) dX8_work_9 (by decide) ?_
  obtain ⟨e4, e5, K⟩ := K
  refine g_iald dX8_work_10 e4 e5 ?_
  refine g_icmp_ge (tgt := 32) dX8_work_11 (by decide) (fun c6 => ?_) (fun c6 => ?_)
  · replace K := K.1 c6
    refine g_fload_n dX8_work_32 rfl 1 rfl ?_
    exact g_fret dX8_work_33 rfl K
  · replace K := K.2 c6
    refine g_fload_n dX8_work_14 rfl 1 rfl ?_
    refine g_aload_n dX8_work_15 rfl 0 rfl ?_
    refine g_iload_n dX8_work_16 rfl 2 rfl ?_
    refine g_iconst (v := 5) dX8_work_17 (by decide) ?_
    obtain ⟨q7, C8, K⟩ := K
    refine g_callV (M' := mX8_carOf) (b := a0) (As := [.int x2, .int 5]) (rest := [.float f1]) (rc' := rc) (rs' := rs) dX8_work_18 bw_1476 bw_1478 bs_67 bw_9 bw_1479 ⟨by decide +kernel, by decide +kernel, show (parseMethodDescriptor mX8_carOf.1.desc).map (fun d => d.parameters.length) = some 2 by decide +kernel⟩ (by decide) (by decide) (Nat.le_of_ble_eq_true rfl) fc_8 (by decide) rfl e1 C8 (Nat.le_of_eq (Nat.add_zero _)) (Nat.le_of_eq (Nat.add_zero _)) (fun _ _ h => h) ?_
    rintro _ h9 ⟨r10, rfl, K1⟩ -
    replace K := K r10 h9 K1
    show Gm l x mX8_work 1 21 [(0, .ref a0), (1, .float f1), (2, .int x2)] [.int r10, .float f1] h9 rc rs n0 Q X
    obtain ⟨e11, K⟩ := K
    refine g_i2fb dX8_work_21 bw_1535 bw_1537 bw_1536 bw_23 e11 (by decide) (Nat.le_of_ble_eq_true rfl) ?_
    obtain ⟨e12, K⟩ := K
    refine g_fadd dX8_work_24 e12 ?_
    refine g_fstore_n (lv' := [(0, .ref a0), (1, .float (FP.fadd f1 r10.toUInt32)), (2, .int x2)]) dX8_work_25 rfl (by decide) rfl ?_
    refine g_iinc (v := (x2 + 1)) (lv' := [(0, .ref a0), (1, .float (FP.fadd f1 r10.toUInt32)), (2, .int (x2 + 1))]) dX8_work_26 2 rfl (by rfl) (by decide) rfl ?_
    refine g_goto (tgt := 4) dX8_work_29 (by decide) ?_
    exact K
theorem dX8_isCar_0 : decode cX8_isCar 0 = .ok (.iload_n 1, 1) := by decide +kernel
theorem dX8_isCar_1 : decode cX8_isCar 1 = .ok (.iconst 0, 1) := by decide +kernel
theorem dX8_isCar_2 : decode cX8_isCar 2 = .ok (.aload_n 0, 1) := by decide +kernel
theorem dX8_isCar_3 : decode cX8_isCar 3 = .ok (.getfield 36, 3) := by decide +kernel
theorem dX8_isCar_6 : decode cX8_isCar 6 = .ok (.iconst 1, 1) := by decide +kernel
theorem dX8_isCar_7 : decode cX8_isCar 7 = .ok (.iaload, 1) := by decide +kernel
theorem dX8_isCar_8 : decode cX8_isCar 8 = .ok (.iconst 1, 1) := by decide +kernel
theorem dX8_isCar_9 : decode cX8_isCar 9 = .ok (.isub, 1) := by decide +kernel
theorem dX8_isCar_10 : decode cX8_isCar 10 = .ok (.invokestatic 390, 3) := by decide +kernel
theorem dX8_isCar_13 : decode cX8_isCar 13 = .ok (.ireturn, 1) := by decide +kernel
set_option maxRecDepth 20000 in
set_option maxHeartbeats 4000000 in
theorem vX8_isCar_0 {l : Launch} {x : CX} {a0 : Nat} {x1 : Int32} {h : PH} {rc rs n0 : Nat} {Q : Option Value → PH → Prop} {X : String → PH → Prop}
    (K : ((hK h a0).1 = 8) ∧ ∃ b2, (hR h a0 4 = some b2) ∧ ((hK h b2).1 = 100) ∧ (vp_in 1 (hK h b2).2) ∧ ∃ (q6 : Int32 → PH → Prop), CI l x mX8_isIn 0 0 0 [.int x1, .int 0, .int ((hI h b2 (Int32.toNatClampNeg 1)) - 1)] h q6 ∧ ∀ (r9 : Int32) (h8 : PH), q6 r9 h8 → ((r9 : Int32) = 0 ∨ (r9 : Int32) = 1) ∧ Q (some (.int r9)) h8) :
    Gm l x mX8_isCar 1 0 [(0, .ref a0), (1, .int x1)] [] h rc rs n0 Q X := by
  refine g_iload_n dX8_isCar_0 rfl 1 rfl ?_
  refine g_iconst (v := 0) dX8_isCar_1 (by decide) ?_
  refine g_aload_n dX8_isCar_2 rfl 0 rfl ?_
  obtain ⟨e1, b2, e3, K⟩ := K
  refine g_get (c := 8) (k := 4) (v := .ref b2) dX8_isCar_3 fc_8 (by decide) (by decide) bw_1202 (congrArg pr e3) e1 ?_
  refine g_iconst (v := 1) dX8_isCar_6 (by decide) ?_
  obtain ⟨e4, e5, K⟩ := K
  refine g_iald dX8_isCar_7 e4 e5 ?_
  refine g_iconst (v := 1) dX8_isCar_8 (by decide) ?_
  refine g_isub dX8_isCar_9 ?_
  obtain ⟨q6, C7, K⟩ := K
  refine g_callS (M' := mX8_isIn) (As := [.int x1, .int 0, .int ((hI h b2 (Int32.toNatClampNeg 1)) - 1)]) (rest := []) (rc' := rc) (rs' := rs) dX8_isCar_10 bw_1612 bw_1613 bw_9 bw_1614 ⟨by decide +kernel, by decide +kernel, show (parseMethodDescriptor mX8_isIn.1.desc).map (fun d => d.parameters.length) = some 3 by decide +kernel⟩ (by decide) (by decide) (Nat.le_of_ble_eq_true rfl) C7 (Nat.le_of_eq (Nat.add_zero _)) (Nat.le_of_eq (Nat.add_zero _)) (fun _ _ h => h) ?_
  rintro _ h8 ⟨r9, rfl, K1⟩ -
  replace K := K r9 h8 K1
  show Gm l x mX8_isCar 1 13 [(0, .ref a0), (1, .int x1)] [.int r9] h8 rc rs n0 Q X
  exact g_zret dX8_isCar_13 rfl K.1 K.2
