/-! STEPS, printed by program: Bank1 -/
theorem dX1_clear_0 : decode cX1_clear 0 = .ok (.aload_n 0, 1) := by decide +kernel
theorem dX1_clear_1 : decode cX1_clear 1 = .ok (.bipush 8, 2) := by decide +kernel
theorem dX1_clear_3 : decode cX1_clear 3 = .ok (.putfield 9, 3) := by decide +kernel
theorem dX1_clear_6 : decode cX1_clear 6 = .ok (.aload_n 0, 1) := by decide +kernel
theorem dX1_clear_7 : decode cX1_clear 7 = .ok (.iconst 0, 1) := by decide +kernel
theorem dX1_clear_8 : decode cX1_clear 8 = .ok (.putfield 15, 3) := by decide +kernel
theorem dX1_clear_11 : decode cX1_clear 11 = .ok (.aload_n 0, 1) := by decide +kernel
theorem dX1_clear_12 : decode cX1_clear 12 = .ok (.iconst 0, 1) := by decide +kernel
theorem dX1_clear_13 : decode cX1_clear 13 = .ok (.putfield 18, 3) := by decide +kernel
theorem dX1_clear_16 : decode cX1_clear 16 = .ok (.aload_n 0, 1) := by decide +kernel
theorem dX1_clear_17 : decode cX1_clear 17 = .ok (.iconst 2, 1) := by decide +kernel
theorem dX1_clear_18 : decode cX1_clear 18 = .ok (.putfield 21, 3) := by decide +kernel
theorem dX1_clear_21 : decode cX1_clear 21 = .ok (.aload_n 0, 1) := by decide +kernel
theorem dX1_clear_22 : decode cX1_clear 22 = .ok (.iconst 0, 1) := by decide +kernel
theorem dX1_clear_23 : decode cX1_clear 23 = .ok (.putfield 24, 3) := by decide +kernel
theorem dX1_clear_26 : decode cX1_clear 26 = .ok (.aload_n 0, 1) := by decide +kernel
theorem dX1_clear_27 : decode cX1_clear 27 = .ok (.iconst 1, 1) := by decide +kernel
theorem dX1_clear_28 : decode cX1_clear 28 = .ok (.putfield 27, 3) := by decide +kernel
theorem dX1_clear_31 : decode cX1_clear 31 = .ok (.aload_n 0, 1) := by decide +kernel
theorem dX1_clear_32 : decode cX1_clear 32 = .ok (.iconst 0, 1) := by decide +kernel
theorem dX1_clear_33 : decode cX1_clear 33 = .ok (.putfield 30, 3) := by decide +kernel
theorem dX1_clear_36 : decode cX1_clear 36 = .ok (.aload_n 0, 1) := by decide +kernel
theorem dX1_clear_37 : decode cX1_clear 37 = .ok (.iconst 0, 1) := by decide +kernel
theorem dX1_clear_38 : decode cX1_clear 38 = .ok (.putfield 33, 3) := by decide +kernel
theorem dX1_clear_41 : decode cX1_clear 41 = .ok (.aload_n 0, 1) := by decide +kernel
theorem dX1_clear_42 : decode cX1_clear 42 = .ok (.iconst 0, 1) := by decide +kernel
theorem dX1_clear_43 : decode cX1_clear 43 = .ok (.putfield 36, 3) := by decide +kernel
theorem dX1_clear_46 : decode cX1_clear 46 = .ok (.aload_n 0, 1) := by decide +kernel
theorem dX1_clear_47 : decode cX1_clear 47 = .ok (.iconst (-1), 1) := by decide +kernel
theorem dX1_clear_48 : decode cX1_clear 48 = .ok (.putfield 40, 3) := by decide +kernel
theorem dX1_clear_51 : decode cX1_clear 51 = .ok (.aload_n 0, 1) := by decide +kernel
theorem dX1_clear_52 : decode cX1_clear 52 = .ok (.iconst 0, 1) := by decide +kernel
theorem dX1_clear_53 : decode cX1_clear 53 = .ok (.putfield 43, 3) := by decide +kernel
theorem dX1_clear_56 : decode cX1_clear 56 = .ok (.aload_n 0, 1) := by decide +kernel
theorem dX1_clear_57 : decode cX1_clear 57 = .ok (.iconst 0, 1) := by decide +kernel
theorem dX1_clear_58 : decode cX1_clear 58 = .ok (.putfield 46, 3) := by decide +kernel
theorem dX1_clear_61 : decode cX1_clear 61 = .ok (.aload_n 0, 1) := by decide +kernel
theorem dX1_clear_62 : decode cX1_clear 62 = .ok (.iconst 0, 1) := by decide +kernel
theorem dX1_clear_63 : decode cX1_clear 63 = .ok (.putfield 49, 3) := by decide +kernel
theorem dX1_clear_66 : decode cX1_clear 66 = .ok (.return_, 1) := by decide +kernel
set_option maxRecDepth 20000 in
set_option maxHeartbeats 4000000 in
theorem vX1_clear_0 {l : Launch} {x : CX} {a0 : Nat} {h : PH} {rc rs n0 : Nat} {Q : Option Value → PH → Prop} {X : String → PH → Prop}
    (K : ((hK h a0).1 = 1) ∧ Q none (sI (sI (sI (sI (sI (sI (sI (sI (sI (sI (sI (sI (sI h a0 0 8) a0 1 0) a0 2 0) a0 3 2) a0 4 0) a0 5 1) a0 6 0) a0 7 0) a0 8 0) a0 9 (-1)) a0 10 0) a0 11 0) a0 12 0)) :
    Gm l x mX1_clear 0 0 [(0, .ref a0)] [] h rc rs n0 Q X := by
  refine g_aload_n dX1_clear_0 rfl 0 rfl ?_
  refine g_bipush (v := 8) dX1_clear_1 (by decide) ?_
  obtain ⟨e1, K⟩ := K
  refine g_puti (c := 1) (k := 0) dX1_clear_3 fc_1 (by decide) (by decide) bw_185 (Or.inl rfl) rfl e1 ?_
  refine g_aload_n dX1_clear_6 rfl 0 rfl ?_
  refine g_iconst (v := 0) dX1_clear_7 (by decide) ?_
  refine g_puti (c := 1) (k := 1) dX1_clear_8 fc_1 (by decide) (by decide) bw_188 (Or.inl rfl) rfl (kkI e1) ?_
  refine g_aload_n dX1_clear_11 rfl 0 rfl ?_
  refine g_iconst (v := 0) dX1_clear_12 (by decide) ?_
  refine g_puti (c := 1) (k := 2) dX1_clear_13 fc_1 (by decide) (by decide) bw_192 (Or.inl rfl) rfl (kkI (kkI e1)) ?_
  refine g_aload_n dX1_clear_16 rfl 0 rfl ?_
  refine g_iconst (v := 2) dX1_clear_17 (by decide) ?_
  refine g_puti (c := 1) (k := 3) dX1_clear_18 fc_1 (by decide) (by decide) bw_197 (Or.inl rfl) rfl (kkI (kkI (kkI e1))) ?_
  refine g_aload_n dX1_clear_21 rfl 0 rfl ?_
  refine g_iconst (v := 0) dX1_clear_22 (by decide) ?_
  refine g_puti (c := 1) (k := 4) dX1_clear_23 fc_1 (by decide) (by decide) bw_201 (Or.inl rfl) rfl (kkI (kkI (kkI (kkI e1)))) ?_
  refine g_aload_n dX1_clear_26 rfl 0 rfl ?_
  refine g_iconst (v := 1) dX1_clear_27 (by decide) ?_
  refine g_puti (c := 1) (k := 5) dX1_clear_28 fc_1 (by decide) (by decide) bw_205 (Or.inl rfl) rfl (kkI (kkI (kkI (kkI (kkI e1))))) ?_
  refine g_aload_n dX1_clear_31 rfl 0 rfl ?_
  refine g_iconst (v := 0) dX1_clear_32 (by decide) ?_
  refine g_puti (c := 1) (k := 6) dX1_clear_33 fc_1 (by decide) (by decide) bw_209 (Or.inl rfl) rfl (kkI (kkI (kkI (kkI (kkI (kkI e1)))))) ?_
  refine g_aload_n dX1_clear_36 rfl 0 rfl ?_
  refine g_iconst (v := 0) dX1_clear_37 (by decide) ?_
  refine g_puti (c := 1) (k := 7) dX1_clear_38 fc_1 (by decide) (by decide) bw_212 (Or.inl rfl) rfl (kkI (kkI (kkI (kkI (kkI (kkI (kkI e1))))))) ?_
  refine g_aload_n dX1_clear_41 rfl 0 rfl ?_
  refine g_iconst (v := 0) dX1_clear_42 (by decide) ?_
  refine g_putz (c := 1) (k := 8) dX1_clear_43 fc_1 (by decide) (by decide) bw_214 (Or.inl rfl) rfl (by decide) (kkI (kkI (kkI (kkI (kkI (kkI (kkI (kkI e1)))))))) ?_
  refine g_aload_n dX1_clear_46 rfl 0 rfl ?_
  refine g_iconst (v := (-1)) dX1_clear_47 (by decide) ?_
  refine g_puti (c := 1) (k := 9) dX1_clear_48 fc_1 (by decide) (by decide) bw_216 (Or.inl rfl) rfl (kkI (kkI (kkI (kkI (kkI (kkI (kkI (kkI (kkI e1))))))))) ?_
  refine g_aload_n dX1_clear_51 rfl 0 rfl ?_
  refine g_iconst (v := 0) dX1_clear_52 (by decide) ?_
  refine g_puti (c := 1) (k := 10) dX1_clear_53 fc_1 (by decide) (by decide) bw_217 (Or.inl rfl) rfl (kkI (kkI (kkI (kkI (kkI (kkI (kkI (kkI (kkI (kkI e1)))))))))) ?_
  refine g_aload_n dX1_clear_56 rfl 0 rfl ?_
  refine g_iconst (v := 0) dX1_clear_57 (by decide) ?_
  refine g_putz (c := 1) (k := 11) dX1_clear_58 fc_1 (by decide) (by decide) bw_218 (Or.inl rfl) rfl (by decide) (kkI (kkI (kkI (kkI (kkI (kkI (kkI (kkI (kkI (kkI (kkI e1))))))))))) ?_
  refine g_aload_n dX1_clear_61 rfl 0 rfl ?_
  refine g_iconst (v := 0) dX1_clear_62 (by decide) ?_
  refine g_puti (c := 1) (k := 12) dX1_clear_63 fc_1 (by decide) (by decide) bw_220 (Or.inl rfl) rfl (kkI (kkI (kkI (kkI (kkI (kkI (kkI (kkI (kkI (kkI (kkI (kkI e1)))))))))))) ?_
  exact g_vret dX1_clear_66 rfl K
theorem dX1_hasFloor_0 : decode cX1_hasFloor 0 = .ok (.iload_n 1, 1) := by decide +kernel
theorem dX1_hasFloor_1 : decode cX1_hasFloor 1 = .ok (.ifCond .lt 15, 3) := by decide +kernel
theorem dX1_hasFloor_4 : decode cX1_hasFloor 4 = .ok (.iload_n 1, 1) := by decide +kernel
theorem dX1_hasFloor_5 : decode cX1_hasFloor 5 = .ok (.aload_n 0, 1) := by decide +kernel
theorem dX1_hasFloor_6 : decode cX1_hasFloor 6 = .ok (.getfield 9, 3) := by decide +kernel
theorem dX1_hasFloor_9 : decode cX1_hasFloor 9 = .ok (.if_icmp .ge 7, 3) := by decide +kernel
theorem dX1_hasFloor_12 : decode cX1_hasFloor 12 = .ok (.iconst 1, 1) := by decide +kernel
theorem dX1_hasFloor_13 : decode cX1_hasFloor 13 = .ok (.goto 4, 3) := by decide +kernel
theorem dX1_hasFloor_16 : decode cX1_hasFloor 16 = .ok (.iconst 0, 1) := by decide +kernel
theorem dX1_hasFloor_17 : decode cX1_hasFloor 17 = .ok (.ireturn, 1) := by decide +kernel
set_option maxRecDepth 20000 in
set_option maxHeartbeats 4000000 in
theorem vX1_hasFloor_0 {l : Launch} {x : CX} {a0 : Nat} {x1 : Int32} {h : PH} {rc rs n0 : Nat} {Q : Option Value → PH → Prop} {X : String → PH → Prop}
    (K : ((x1 < 0 → ((0 : Int32) = 0 ∨ (0 : Int32) = 1) ∧ Q (some (.int 0)) h) ∧ (¬ x1 < 0 → ((hK h a0).1 = 1) ∧ (((if (hI h a0 0) ≤ x1 then 0 else 1 : Int32) : Int32) = 0 ∨ ((if (hI h a0 0) ≤ x1 then 0 else 1 : Int32) : Int32) = 1) ∧ Q (some (.int (if (hI h a0 0) ≤ x1 then 0 else 1 : Int32))) h))) :
    Gm l x mX1_hasFloor 0 0 [(0, .ref a0), (1, .int x1)] [] h rc rs n0 Q X := by
  refine g_iload_n dX1_hasFloor_0 rfl 1 rfl ?_
  refine g_if_lt (tgt := 16) dX1_hasFloor_1 (by decide) (fun c1 => ?_) (fun c1 => ?_)
  · replace K := K.1 c1
    refine g_iconst (v := 0) dX1_hasFloor_16 (by decide) ?_
    exact g_zret dX1_hasFloor_17 rfl K.1 K.2
  · replace K := K.2 c1
    refine g_iload_n dX1_hasFloor_4 rfl 1 rfl ?_
    refine g_aload_n dX1_hasFloor_5 rfl 0 rfl ?_
    obtain ⟨e2, K⟩ := K
    refine g_get (c := 1) (k := 0) (v := .int (hI h a0 0)) dX1_hasFloor_6 fc_1 (by decide) (by decide) bw_185 rfl e2 ?_
    have KJ : Gm l x mX1_hasFloor 0 17 [(0, .ref a0), (1, .int x1)] [.int (if (hI h a0 0) ≤ x1 then 0 else 1 : Int32)] h rc rs n0 Q X := by
      exact g_zret dX1_hasFloor_17 rfl K.1 K.2
    refine g_icmp_ge (tgt := 16) dX1_hasFloor_9 (by decide) (fun c3 => ?_) (fun c3 => ?_)
    · refine g_iconst (v := 0) dX1_hasFloor_16 (by decide) ?_
      first | (simp only [if_pos c3] at KJ; exact KJ) | (simp only [if_pos c3, ite_true, ite_false, eq_self] at KJ; exact KJ) | (simp only [if_pos c3] at KJ ⊢; exact KJ) | exact KJ
    · refine g_iconst (v := 1) dX1_hasFloor_12 (by decide) ?_
      refine g_goto (tgt := 17) dX1_hasFloor_13 (by decide) ?_
      first | (simp only [if_neg c3] at KJ; exact KJ) | (simp only [if_neg c3, ite_true, ite_false, eq_self] at KJ; exact KJ) | (simp only [if_neg c3] at KJ ⊢; exact KJ) | exact KJ
theorem dX1_holderOf_0 : decode cX1_holderOf 0 = .ok (.iconst 0, 1) := by decide +kernel
theorem dX1_holderOf_1 : decode cX1_holderOf 1 = .ok (.istore_n 2, 1) := by decide +kernel
theorem dX1_holderOf_2 : decode cX1_holderOf 2 = .ok (.iload_n 2, 1) := by decide +kernel
theorem dX1_holderOf_3 : decode cX1_holderOf 3 = .ok (.aload_n 0, 1) := by decide +kernel
theorem dX1_holderOf_4 : decode cX1_holderOf 4 = .ok (.getfield 15, 3) := by decide +kernel
theorem dX1_holderOf_7 : decode cX1_holderOf 7 = .ok (.if_icmp .ge 29, 3) := by decide +kernel
theorem dX1_holderOf_10 : decode cX1_holderOf 10 = .ok (.aload_n 0, 1) := by decide +kernel
theorem dX1_holderOf_11 : decode cX1_holderOf 11 = .ok (.getfield 54, 3) := by decide +kernel
theorem dX1_holderOf_14 : decode cX1_holderOf 14 = .ok (.iload_n 2, 1) := by decide +kernel
theorem dX1_holderOf_15 : decode cX1_holderOf 15 = .ok (.aaload, 1) := by decide +kernel
theorem dX1_holderOf_16 : decode cX1_holderOf 16 = .ok (.getfield 144, 3) := by decide +kernel
theorem dX1_holderOf_19 : decode cX1_holderOf 19 = .ok (.iload_n 1, 1) := by decide +kernel
theorem dX1_holderOf_20 : decode cX1_holderOf 20 = .ok (.lushr, 1) := by decide +kernel
theorem dX1_holderOf_21 : decode cX1_holderOf 21 = .ok (.lconst 1, 1) := by decide +kernel
theorem dX1_holderOf_22 : decode cX1_holderOf 22 = .ok (.land, 1) := by decide +kernel
theorem dX1_holderOf_23 : decode cX1_holderOf 23 = .ok (.lconst 0, 1) := by decide +kernel
theorem dX1_holderOf_24 : decode cX1_holderOf 24 = .ok (.lcmp, 1) := by decide +kernel
theorem dX1_holderOf_25 : decode cX1_holderOf 25 = .ok (.ifCond .eq 5, 3) := by decide +kernel
theorem dX1_holderOf_28 : decode cX1_holderOf 28 = .ok (.iload_n 2, 1) := by decide +kernel
theorem dX1_holderOf_29 : decode cX1_holderOf 29 = .ok (.ireturn, 1) := by decide +kernel
theorem dX1_holderOf_30 : decode cX1_holderOf 30 = .ok (.iinc 2 1, 3) := by decide +kernel
theorem dX1_holderOf_33 : decode cX1_holderOf 33 = .ok (.goto (-31), 3) := by decide +kernel
theorem dX1_holderOf_36 : decode cX1_holderOf 36 = .ok (.iconst (-1), 1) := by decide +kernel
theorem dX1_holderOf_37 : decode cX1_holderOf 37 = .ok (.ireturn, 1) := by decide +kernel
set_option maxRecDepth 20000 in
set_option maxHeartbeats 4000000 in
theorem vX1_holderOf_0 {l : Launch} {x : CX} {a0 : Nat} {x1 : Int32} {h : PH} {rc rs n0 : Nat} {Q : Option Value → PH → Prop} {X : String → PH → Prop}
    (K : Gm l x mX1_holderOf 0 2 [(0, .ref a0), (1, .int x1), (2, .int 0)] [] h rc rs n0 Q X) :
    Gm l x mX1_holderOf 0 0 [(0, .ref a0), (1, .int x1)] [] h rc rs n0 Q X := by
  refine g_iconst (v := 0) dX1_holderOf_0 (by decide) ?_
  refine g_istore_n (lv' := [(0, .ref a0), (1, .int x1), (2, .int 0)]) dX1_holderOf_1 rfl (by decide) rfl ?_
  exact K
set_option maxRecDepth 20000 in
set_option maxHeartbeats 4000000 in
theorem vX1_holderOf_2 {l : Launch} {x : CX} {a0 : Nat} {x1 : Int32} {x2 : Int32} {h : PH} {rc rs n0 : Nat} {Q : Option Value → PH → Prop} {X : String → PH → Prop}
    (K : ((hK h a0).1 = 1) ∧ (((hI h a0 1) ≤ x2 → Q (some (.int (-1))) h) ∧ (¬ (hI h a0 1) ≤ x2 → ∃ b3, (hR h a0 13 = some b3) ∧ ((hK h b3).1 = 105) ∧ (vp_in x2 (hK h b3).2) ∧ ∃ b7, (hR h b3 x2.toNatClampNeg = some b7) ∧ ((hK h b7).1 = 2) ∧ (((lg_cmp ((lus (hL h b7 12) x1) &&& 1) 0) = 0 → Gm l x mX1_holderOf 0 2 [(0, .ref a0), (1, .int x1), (2, .int (x2 + 1))] [] h rc rs n0 Q X) ∧ (¬ (lg_cmp ((lus (hL h b7 12) x1) &&& 1) 0) = 0 → Q (some (.int x2)) h))))) :
    Gm l x mX1_holderOf 0 2 [(0, .ref a0), (1, .int x1), (2, .int x2)] [] h rc rs n0 Q X := by
  refine g_iload_n dX1_holderOf_2 rfl 2 rfl ?_
  refine g_aload_n dX1_holderOf_3 rfl 0 rfl ?_
  obtain ⟨e1, K⟩ := K
  refine g_get (c := 1) (k := 1) (v := .int (hI h a0 1)) dX1_holderOf_4 fc_1 (by decide) (by decide) bw_188 rfl e1 ?_
  refine g_icmp_ge (tgt := 36) dX1_holderOf_7 (by decide) (fun c2 => ?_) (fun c2 => ?_)
  · replace K := K.1 c2
    refine g_iconst (v := (-1)) dX1_holderOf_36 (by decide) ?_
    exact g_iret dX1_holderOf_37 rfl K
  · replace K := K.2 c2
    refine g_aload_n dX1_holderOf_10 rfl 0 rfl ?_
    obtain ⟨b3, e4, K⟩ := K
    refine g_get (c := 1) (k := 13) (v := .ref b3) dX1_holderOf_11 fc_1 (by decide) (by decide) bw_223 (congrArg pr e4) e1 ?_
    refine g_iload_n dX1_holderOf_14 rfl 2 rfl ?_
    obtain ⟨e5, e6, b7, e8, K⟩ := K
    refine g_aald (t := 5) (v := .ref b7) dX1_holderOf_15 (Or.inl rfl) e5 e6 (congrArg pr e8) ?_
    obtain ⟨e9, K⟩ := K
    refine g_get (c := 2) (k := 12) (v := .long (hL h b7 12)) dX1_holderOf_16 fc_2 (by decide) (by decide) bw_87 rfl e9 ?_
    refine g_iload_n dX1_holderOf_19 rfl 1 rfl ?_
    refine g_lushr dX1_holderOf_20 ?_
    refine g_lconst (v := 1) dX1_holderOf_21 (by decide) ?_
    refine g_land dX1_holderOf_22 ?_
    refine g_lconst (v := 0) dX1_holderOf_23 (by decide) ?_
    refine g_lcmp dX1_holderOf_24 ?_
    refine g_if_eq (tgt := 30) dX1_holderOf_25 (by decide) (fun c10 => ?_) (fun c10 => ?_)
    · replace K := K.1 c10
      refine g_iinc (v := (x2 + 1)) (lv' := [(0, .ref a0), (1, .int x1), (2, .int (x2 + 1))]) dX1_holderOf_30 2 rfl (by rfl) (by decide) rfl ?_
      refine g_goto (tgt := 2) dX1_holderOf_33 (by decide) ?_
      exact K
    · replace K := K.2 c10
      refine g_iload_n dX1_holderOf_28 rfl 2 rfl ?_
      exact g_iret dX1_holderOf_29 rfl K
theorem dX1_takeFromAll_0 : decode cX1_takeFromAll 0 = .ok (.iconst 0, 1) := by decide +kernel
theorem dX1_takeFromAll_1 : decode cX1_takeFromAll 1 = .ok (.istore_n 3, 1) := by decide +kernel
theorem dX1_takeFromAll_2 : decode cX1_takeFromAll 2 = .ok (.iload_n 3, 1) := by decide +kernel
theorem dX1_takeFromAll_3 : decode cX1_takeFromAll 3 = .ok (.aload_n 0, 1) := by decide +kernel
theorem dX1_takeFromAll_4 : decode cX1_takeFromAll 4 = .ok (.getfield 15, 3) := by decide +kernel
theorem dX1_takeFromAll_7 : decode cX1_takeFromAll 7 = .ok (.if_icmp .ge 28, 3) := by decide +kernel
theorem dX1_takeFromAll_10 : decode cX1_takeFromAll 10 = .ok (.aload_n 0, 1) := by decide +kernel
theorem dX1_takeFromAll_11 : decode cX1_takeFromAll 11 = .ok (.getfield 54, 3) := by decide +kernel
theorem dX1_takeFromAll_14 : decode cX1_takeFromAll 14 = .ok (.iload_n 3, 1) := by decide +kernel
theorem dX1_takeFromAll_15 : decode cX1_takeFromAll 15 = .ok (.aaload, 1) := by decide +kernel
theorem dX1_takeFromAll_16 : decode cX1_takeFromAll 16 = .ok (.dup, 1) := by decide +kernel
theorem dX1_takeFromAll_17 : decode cX1_takeFromAll 17 = .ok (.getfield 144, 3) := by decide +kernel
theorem dX1_takeFromAll_20 : decode cX1_takeFromAll 20 = .ok (.lload_n 1, 1) := by decide +kernel
theorem dX1_takeFromAll_21 : decode cX1_takeFromAll 21 = .ok (.ldc2_w 176, 3) := by decide +kernel
theorem dX1_takeFromAll_24 : decode cX1_takeFromAll 24 = .ok (.lxor, 1) := by decide +kernel
theorem dX1_takeFromAll_25 : decode cX1_takeFromAll 25 = .ok (.land, 1) := by decide +kernel
theorem dX1_takeFromAll_26 : decode cX1_takeFromAll 26 = .ok (.putfield 144, 3) := by decide +kernel
theorem dX1_takeFromAll_29 : decode cX1_takeFromAll 29 = .ok (.iinc 3 1, 3) := by decide +kernel
theorem dX1_takeFromAll_32 : decode cX1_takeFromAll 32 = .ok (.goto (-30), 3) := by decide +kernel
theorem dX1_takeFromAll_35 : decode cX1_takeFromAll 35 = .ok (.return_, 1) := by decide +kernel
set_option maxRecDepth 20000 in
set_option maxHeartbeats 4000000 in
theorem vX1_takeFromAll_0 {l : Launch} {x : CX} {a0 : Nat} {l1 : Int64} {h : PH} {rc rs n0 : Nat} {Q : Option Value → PH → Prop} {X : String → PH → Prop}
    (K : Gm l x mX1_takeFromAll 0 2 [(0, .ref a0), (1, .long l1), (3, .int 0)] [] h rc rs n0 Q X) :
    Gm l x mX1_takeFromAll 0 0 [(0, .ref a0), (1, .long l1)] [] h rc rs n0 Q X := by
  refine g_iconst (v := 0) dX1_takeFromAll_0 (by decide) ?_
  refine g_istore_n (lv' := [(0, .ref a0), (1, .long l1), (3, .int 0)]) dX1_takeFromAll_1 rfl (by decide) rfl ?_
  exact K
set_option maxRecDepth 20000 in
set_option maxHeartbeats 4000000 in
theorem vX1_takeFromAll_2 {l : Launch} {x : CX} {a0 : Nat} {l1 : Int64} {x3 : Int32} {h : PH} {rc rs n0 : Nat} {Q : Option Value → PH → Prop} {X : String → PH → Prop}
    (K : ((hK h a0).1 = 1) ∧ (((hI h a0 1) ≤ x3 → Q none h) ∧ (¬ (hI h a0 1) ≤ x3 → ∃ b3, (hR h a0 13 = some b3) ∧ ((hK h b3).1 = 105) ∧ (vp_in x3 (hK h b3).2) ∧ ∃ b7, (hR h b3 x3.toNatClampNeg = some b7) ∧ ((hK h b7).1 = 2) ∧ Gm l x mX1_takeFromAll 0 2 [(0, .ref a0), (1, .long l1), (3, .int (x3 + 1))] [] (sL h b7 12 ((hL h b7 12) &&& (l1 ^^^ (-1)))) rc rs n0 Q X))) :
    Gm l x mX1_takeFromAll 0 2 [(0, .ref a0), (1, .long l1), (3, .int x3)] [] h rc rs n0 Q X := by
  refine g_iload_n dX1_takeFromAll_2 rfl 2 rfl ?_
  refine g_aload_n dX1_takeFromAll_3 rfl 0 rfl ?_
  obtain ⟨e1, K⟩ := K
  refine g_get (c := 1) (k := 1) (v := .int (hI h a0 1)) dX1_takeFromAll_4 fc_1 (by decide) (by decide) bw_188 rfl e1 ?_
  refine g_icmp_ge (tgt := 35) dX1_takeFromAll_7 (by decide) (fun c2 => ?_) (fun c2 => ?_)
  · replace K := K.1 c2
    exact g_vret dX1_takeFromAll_35 rfl K
  · replace K := K.2 c2
    refine g_aload_n dX1_takeFromAll_10 rfl 0 rfl ?_
    obtain ⟨b3, e4, K⟩ := K
    refine g_get (c := 1) (k := 13) (v := .ref b3) dX1_takeFromAll_11 fc_1 (by decide) (by decide) bw_223 (congrArg pr e4) e1 ?_
    refine g_iload_n dX1_takeFromAll_14 rfl 2 rfl ?_
    obtain ⟨e5, e6, b7, e8, K⟩ := K
    refine g_aald (t := 5) (v := .ref b7) dX1_takeFromAll_15 (Or.inl rfl) e5 e6 (congrArg pr e8) ?_
    refine g_dup dX1_takeFromAll_16 rfl ?_
    obtain ⟨e9, K⟩ := K
    refine g_get (c := 2) (k := 12) (v := .long (hL h b7 12)) dX1_takeFromAll_17 fc_2 (by decide) (by decide) bw_87 rfl e9 ?_
    refine g_lload_n dX1_takeFromAll_20 rfl 1 rfl ?_
    refine g_ldc2 (v := (-1)) dX1_takeFromAll_21 bw_499 ?_
    refine g_lxor dX1_takeFromAll_24 ?_
    refine g_land dX1_takeFromAll_25 ?_
    refine g_putl (c := 2) (k := 12) dX1_takeFromAll_26 fc_2 (by decide) (by decide) bw_87 (Or.inl rfl) rfl e9 ?_
    refine g_iinc (v := (x3 + 1)) (lv' := [(0, .ref a0), (1, .long l1), (3, .int (x3 + 1))]) dX1_takeFromAll_29 2 rfl (by rfl) (by decide) rfl ?_
    refine g_goto (tgt := 2) dX1_takeFromAll_32 (by decide) ?_
    exact K
theorem dX1_finish_0 : decode cX1_finish 0 = .ok (.aload_n 1, 1) := by decide +kernel
theorem dX1_finish_1 : decode cX1_finish 1 = .ok (.iconst 3, 1) := by decide +kernel
theorem dX1_finish_2 : decode cX1_finish 2 = .ok (.putfield 107, 3) := by decide +kernel
theorem dX1_finish_5 : decode cX1_finish 5 = .ok (.aload_n 1, 1) := by decide +kernel
theorem dX1_finish_6 : decode cX1_finish 6 = .ok (.iconst (-1), 1) := by decide +kernel
theorem dX1_finish_7 : decode cX1_finish 7 = .ok (.putfield 131, 3) := by decide +kernel
theorem dX1_finish_10 : decode cX1_finish 10 = .ok (.aload_n 1, 1) := by decide +kernel
theorem dX1_finish_11 : decode cX1_finish 11 = .ok (.aload_n 0, 1) := by decide +kernel
theorem dX1_finish_12 : decode cX1_finish 12 = .ok (.getfield 33, 3) := by decide +kernel
theorem dX1_finish_15 : decode cX1_finish 15 = .ok (.putfield 206, 3) := by decide +kernel
theorem dX1_finish_18 : decode cX1_finish 18 = .ok (.aload_n 0, 1) := by decide +kernel
theorem dX1_finish_19 : decode cX1_finish 19 = .ok (.dup, 1) := by decide +kernel
theorem dX1_finish_20 : decode cX1_finish 20 = .ok (.getfield 49, 3) := by decide +kernel
theorem dX1_finish_23 : decode cX1_finish 23 = .ok (.iconst 1, 1) := by decide +kernel
theorem dX1_finish_24 : decode cX1_finish 24 = .ok (.iadd, 1) := by decide +kernel
theorem dX1_finish_25 : decode cX1_finish 25 = .ok (.putfield 49, 3) := by decide +kernel
theorem dX1_finish_28 : decode cX1_finish 28 = .ok (.return_, 1) := by decide +kernel
set_option maxRecDepth 20000 in
set_option maxHeartbeats 4000000 in
theorem vX1_finish_0 {l : Launch} {x : CX} {a0 : Nat} {a1 : Nat} {h : PH} {rc rs n0 : Nat} {Q : Option Value → PH → Prop} {X : String → PH → Prop}
    (K : ((hK h a1).1 = 6) ∧ ((hK h a0).1 = 1) ∧ Q none (sI (sI (sI (sI h a1 4 3) a1 5 (-1)) a1 9 (hI h a0 7)) a0 12 ((hI h a0 12) + 1))) :
    Gm l x mX1_finish 0 0 [(0, .ref a0), (1, .ref a1)] [] h rc rs n0 Q X := by
  refine g_aload_n dX1_finish_0 rfl 1 rfl ?_
  refine g_iconst (v := 3) dX1_finish_1 (by decide) ?_
  obtain ⟨e1, K⟩ := K
  refine g_puti (c := 6) (k := 4) dX1_finish_2 fc_6 (by decide) (by decide) bw_146 (Or.inl rfl) rfl e1 ?_
  refine g_aload_n dX1_finish_5 rfl 1 rfl ?_
  refine g_iconst (v := (-1)) dX1_finish_6 (by decide) ?_
  refine g_puti (c := 6) (k := 5) dX1_finish_7 fc_6 (by decide) (by decide) bw_150 (Or.inl rfl) rfl (kkI e1) ?_
  refine g_aload_n dX1_finish_10 rfl 1 rfl ?_
  refine g_aload_n dX1_finish_11 rfl 0 rfl ?_
  obtain ⟨e2, K⟩ := K
  refine g_get (c := 1) (k := 7) (v := .int (hI h a0 7)) dX1_finish_12 fc_1 (by decide) (by decide) bw_212 (congrArg Value.int ((skI (by decide)).trans ((skI (by decide)).trans rfl))) (kkI (kkI e2)) ?_
  refine g_puti (c := 6) (k := 9) dX1_finish_15 fc_6 (by decide) (by decide) bw_163 (Or.inl rfl) rfl (kkI (kkI e1)) ?_
  refine g_aload_n dX1_finish_18 rfl 0 rfl ?_
  refine g_dup dX1_finish_19 rfl ?_
  refine g_get (c := 1) (k := 12) (v := .int (hI h a0 12)) dX1_finish_20 fc_1 (by decide) (by decide) bw_220 (congrArg Value.int ((skI (by decide)).trans ((skI (by decide)).trans ((skI (by decide)).trans rfl)))) (kkI (kkI (kkI e2))) ?_
  refine g_iconst (v := 1) dX1_finish_23 (by decide) ?_
  refine g_iadd dX1_finish_24 ?_
  refine g_puti (c := 1) (k := 12) dX1_finish_25 fc_1 (by decide) (by decide) bw_220 (Or.inl rfl) rfl (kkI (kkI (kkI e2))) ?_
  exact g_vret dX1_finish_28 rfl K
theorem dX1_restOf_0 : decode cX1_restOf 0 = .ok (.aload_n 0, 1) := by decide +kernel
theorem dX1_restOf_1 : decode cX1_restOf 1 = .ok (.getfield 46, 3) := by decide +kernel
theorem dX1_restOf_4 : decode cX1_restOf 4 = .ok (.ifCond .eq 7, 3) := by decide +kernel
theorem dX1_restOf_7 : decode cX1_restOf 7 = .ok (.iconst 0, 1) := by decide +kernel
theorem dX1_restOf_8 : decode cX1_restOf 8 = .ok (.goto 7, 3) := by decide +kernel
theorem dX1_restOf_11 : decode cX1_restOf 11 = .ok (.aload_n 1, 1) := by decide +kernel
theorem dX1_restOf_12 : decode cX1_restOf 12 = .ok (.getfield 224, 3) := by decide +kernel
theorem dX1_restOf_15 : decode cX1_restOf 15 = .ok (.ireturn, 1) := by decide +kernel
set_option maxRecDepth 20000 in
set_option maxHeartbeats 4000000 in
theorem vX1_restOf_0 {l : Launch} {x : CX} {a0 : Nat} {a1 : Nat} {h : PH} {rc rs n0 : Nat} {Q : Option Value → PH → Prop} {X : String → PH → Prop}
    (K : ((hK h a0).1 = 1) ∧ (((hI h a0 11) = 0 → ((hK h a1).1 = 2) ∧ Q (some (.int (hI h a1 1))) h) ∧ (¬ (hI h a0 11) = 0 → Q (some (.int 0)) h))) :
    Gm l x mX1_restOf 0 0 [(0, .ref a0), (1, .ref a1)] [] h rc rs n0 Q X := by
  refine g_aload_n dX1_restOf_0 rfl 0 rfl ?_
  obtain ⟨e1, K⟩ := K
  refine g_get (c := 1) (k := 11) (v := .int (hI h a0 11)) dX1_restOf_1 fc_1 (by decide) (by decide) bw_218 rfl e1 ?_
  refine g_if_eq (tgt := 11) dX1_restOf_4 (by decide) (fun c2 => ?_) (fun c2 => ?_)
  · replace K := K.1 c2
    refine g_aload_n dX1_restOf_11 rfl 1 rfl ?_
    obtain ⟨e3, K⟩ := K
    refine g_get (c := 2) (k := 1) (v := .int (hI h a1 1)) dX1_restOf_12 fc_2 (by decide) (by decide) bw_58 rfl e3 ?_
    exact g_iret dX1_restOf_15 rfl K
  · replace K := K.2 c2
    refine g_iconst (v := 0) dX1_restOf_7 (by decide) ?_
    refine g_goto (tgt := 15) dX1_restOf_8 (by decide) ?_
    exact g_iret dX1_restOf_15 rfl K
theorem dX1_howMany_0 : decode cX1_howMany 0 = .ok (.iconst 0, 1) := by decide +kernel
theorem dX1_howMany_1 : decode cX1_howMany 1 = .ok (.istore_n 2, 1) := by decide +kernel
theorem dX1_howMany_2 : decode cX1_howMany 2 = .ok (.iconst 0, 1) := by decide +kernel
theorem dX1_howMany_3 : decode cX1_howMany 3 = .ok (.istore_n 3, 1) := by decide +kernel
theorem dX1_howMany_4 : decode cX1_howMany 4 = .ok (.iload_n 3, 1) := by decide +kernel
theorem dX1_howMany_5 : decode cX1_howMany 5 = .ok (.aload_n 0, 1) := by decide +kernel
theorem dX1_howMany_6 : decode cX1_howMany 6 = .ok (.getfield 18, 3) := by decide +kernel
theorem dX1_howMany_9 : decode cX1_howMany 9 = .ok (.if_icmp .ge 25, 3) := by decide +kernel
theorem dX1_howMany_12 : decode cX1_howMany 12 = .ok (.aload_n 0, 1) := by decide +kernel
theorem dX1_howMany_13 : decode cX1_howMany 13 = .ok (.getfield 60, 3) := by decide +kernel
theorem dX1_howMany_16 : decode cX1_howMany 16 = .ok (.iload_n 3, 1) := by decide +kernel
theorem dX1_howMany_17 : decode cX1_howMany 17 = .ok (.aaload, 1) := by decide +kernel
theorem dX1_howMany_18 : decode cX1_howMany 18 = .ok (.getfield 107, 3) := by decide +kernel
theorem dX1_howMany_21 : decode cX1_howMany 21 = .ok (.iload_n 1, 1) := by decide +kernel
theorem dX1_howMany_22 : decode cX1_howMany 22 = .ok (.if_icmp .ne 6, 3) := by decide +kernel
theorem dX1_howMany_25 : decode cX1_howMany 25 = .ok (.iinc 2 1, 3) := by decide +kernel
theorem dX1_howMany_28 : decode cX1_howMany 28 = .ok (.iinc 3 1, 3) := by decide +kernel
theorem dX1_howMany_31 : decode cX1_howMany 31 = .ok (.goto (-27), 3) := by decide +kernel
theorem dX1_howMany_34 : decode cX1_howMany 34 = .ok (.iload_n 2, 1) := by decide +kernel
theorem dX1_howMany_35 : decode cX1_howMany 35 = .ok (.ireturn, 1) := by decide +kernel
set_option maxRecDepth 20000 in
set_option maxHeartbeats 4000000 in
theorem vX1_howMany_0 {l : Launch} {x : CX} {a0 : Nat} {x1 : Int32} {h : PH} {rc rs n0 : Nat} {Q : Option Value → PH → Prop} {X : String → PH → Prop}
    (K : Gm l x mX1_howMany 0 4 [(0, .ref a0), (1, .int x1), (2, .int 0), (3, .int 0)] [] h rc rs n0 Q X) :
    Gm l x mX1_howMany 0 0 [(0, .ref a0), (1, .int x1)] [] h rc rs n0 Q X := by
  refine g_iconst (v := 0) dX1_howMany_0 (by decide) ?_
  refine g_istore_n (lv' := [(0, .ref a0), (1, .int x1), (2, .int 0)]) dX1_howMany_1 rfl (by decide) rfl ?_
  refine g_iconst (v := 0) dX1_howMany_2 (by decide) ?_
  refine g_istore_n (lv' := [(0, .ref a0), (1, .int x1), (2, .int 0), (3, .int 0)]) dX1_howMany_3 rfl (by decide) rfl ?_
  exact K
set_option maxRecDepth 20000 in
set_option maxHeartbeats 4000000 in
theorem vX1_howMany_4 {l : Launch} {x : CX} {a0 : Nat} {x1 : Int32} {x2 : Int32} {x3 : Int32} {h : PH} {rc rs n0 : Nat} {Q : Option Value → PH → Prop} {X : String → PH → Prop}
    (K : ((hK h a0).1 = 1) ∧ (((hI h a0 2) ≤ x3 → Q (some (.int x2)) h) ∧ (¬ (hI h a0 2) ≤ x3 → ∃ b3, (hR h a0 14 = some b3) ∧ ((hK h b3).1 = 106) ∧ (vp_in x3 (hK h b3).2) ∧ ∃ b7, (hR h b3 x3.toNatClampNeg = some b7) ∧ ((hK h b7).1 = 6) ∧ Gm l x mX1_howMany 0 4 [(0, .ref a0), (1, .int x1), (2, .int (if (hI h b7 4) = x1 then (x2 + 1) else x2 : Int32)), (3, .int (x3 + 1))] [] h rc rs n0 Q X))) :
    Gm l x mX1_howMany 0 4 [(0, .ref a0), (1, .int x1), (2, .int x2), (3, .int x3)] [] h rc rs n0 Q X := by
  refine g_iload_n dX1_howMany_4 rfl 3 rfl ?_
  refine g_aload_n dX1_howMany_5 rfl 0 rfl ?_
  obtain ⟨e1, K⟩ := K
  refine g_get (c := 1) (k := 2) (v := .int (hI h a0 2)) dX1_howMany_6 fc_1 (by decide) (by decide) bw_192 rfl e1 ?_
  refine g_icmp_ge (tgt := 34) dX1_howMany_9 (by decide) (fun c2 => ?_) (fun c2 => ?_)
  · replace K := K.1 c2
    refine g_iload_n dX1_howMany_34 rfl 2 rfl ?_
    exact g_iret dX1_howMany_35 rfl K
  · replace K := K.2 c2
    refine g_aload_n dX1_howMany_12 rfl 0 rfl ?_
    obtain ⟨b3, e4, K⟩ := K
    refine g_get (c := 1) (k := 14) (v := .ref b3) dX1_howMany_13 fc_1 (by decide) (by decide) bw_226 (congrArg pr e4) e1 ?_
    refine g_iload_n dX1_howMany_16 rfl 3 rfl ?_
    obtain ⟨e5, e6, b7, e8, K⟩ := K
    refine g_aald (t := 6) (v := .ref b7) dX1_howMany_17 (Or.inr (Or.inl rfl)) e5 e6 (congrArg pr e8) ?_
    obtain ⟨e9, K⟩ := K
    refine g_get (c := 6) (k := 4) (v := .int (hI h b7 4)) dX1_howMany_18 fc_6 (by decide) (by decide) bw_146 rfl e9 ?_
    refine g_iload_n dX1_howMany_21 rfl 1 rfl ?_
    have KJ : Gm l x mX1_howMany 0 28 [(0, .ref a0), (1, .int x1), (2, .int (if (hI h b7 4) = x1 then (x2 + 1) else x2 : Int32)), (3, .int x3)] [] h rc rs n0 Q X := by
      refine g_iinc (v := (x3 + 1)) (lv' := [(0, .ref a0), (1, .int x1), (2, .int (if (hI h b7 4) = x1 then (x2 + 1) else x2 : Int32)), (3, .int (x3 + 1))]) dX1_howMany_28 3 rfl (by rfl) (by decide) rfl ?_
      refine g_goto (tgt := 4) dX1_howMany_31 (by decide) ?_
      exact K
    refine g_icmp_ne (tgt := 28) dX1_howMany_22 (by decide) (fun c10 => ?_) (fun c10 => ?_)
    · first | (simp only [if_neg c10] at KJ; exact KJ) | (simp only [if_neg c10, ite_true, ite_false, eq_self] at KJ; exact KJ) | (simp only [if_neg c10] at KJ ⊢; exact KJ) | exact KJ
    · refine g_iinc (v := (x2 + 1)) (lv' := [(0, .ref a0), (1, .int x1), (2, .int (x2 + 1)), (3, .int x3)]) dX1_howMany_25 2 rfl (by rfl) (by decide) rfl ?_
      first | (simp only [if_pos c10] at KJ; exact KJ) | (simp only [if_pos c10, ite_true, ite_false, eq_self] at KJ; exact KJ) | (simp only [if_pos c10] at KJ ⊢; exact KJ) | exact KJ
theorem dX1_waitedInAll_0 : decode cX1_waitedInAll 0 = .ok (.iconst 0, 1) := by decide +kernel
theorem dX1_waitedInAll_1 : decode cX1_waitedInAll 1 = .ok (.istore_n 1, 1) := by decide +kernel
theorem dX1_waitedInAll_2 : decode cX1_waitedInAll 2 = .ok (.iconst 0, 1) := by decide +kernel
theorem dX1_waitedInAll_3 : decode cX1_waitedInAll 3 = .ok (.istore_n 2, 1) := by decide +kernel
theorem dX1_waitedInAll_4 : decode cX1_waitedInAll 4 = .ok (.iload_n 2, 1) := by decide +kernel
theorem dX1_waitedInAll_5 : decode cX1_waitedInAll 5 = .ok (.aload_n 0, 1) := by decide +kernel
theorem dX1_waitedInAll_6 : decode cX1_waitedInAll 6 = .ok (.getfield 18, 3) := by decide +kernel
theorem dX1_waitedInAll_9 : decode cX1_waitedInAll 9 = .ok (.if_icmp .ge 21, 3) := by decide +kernel
theorem dX1_waitedInAll_12 : decode cX1_waitedInAll 12 = .ok (.iload_n 1, 1) := by decide +kernel
theorem dX1_waitedInAll_13 : decode cX1_waitedInAll 13 = .ok (.aload_n 0, 1) := by decide +kernel
theorem dX1_waitedInAll_14 : decode cX1_waitedInAll 14 = .ok (.getfield 60, 3) := by decide +kernel
theorem dX1_waitedInAll_17 : decode cX1_waitedInAll 17 = .ok (.iload_n 2, 1) := by decide +kernel
theorem dX1_waitedInAll_18 : decode cX1_waitedInAll 18 = .ok (.aaload, 1) := by decide +kernel
theorem dX1_waitedInAll_19 : decode cX1_waitedInAll 19 = .ok (.getfield 128, 3) := by decide +kernel
theorem dX1_waitedInAll_22 : decode cX1_waitedInAll 22 = .ok (.iadd, 1) := by decide +kernel
theorem dX1_waitedInAll_23 : decode cX1_waitedInAll 23 = .ok (.istore_n 1, 1) := by decide +kernel
theorem dX1_waitedInAll_24 : decode cX1_waitedInAll 24 = .ok (.iinc 2 1, 3) := by decide +kernel
theorem dX1_waitedInAll_27 : decode cX1_waitedInAll 27 = .ok (.goto (-23), 3) := by decide +kernel
theorem dX1_waitedInAll_30 : decode cX1_waitedInAll 30 = .ok (.iload_n 1, 1) := by decide +kernel
theorem dX1_waitedInAll_31 : decode cX1_waitedInAll 31 = .ok (.ireturn, 1) := by decide +kernel
set_option maxRecDepth 20000 in
set_option maxHeartbeats 4000000 in
theorem vX1_waitedInAll_0 {l : Launch} {x : CX} {a0 : Nat} {h : PH} {rc rs n0 : Nat} {Q : Option Value → PH → Prop} {X : String → PH → Prop}
    (K : Gm l x mX1_waitedInAll 0 4 [(0, .ref a0), (1, .int 0), (2, .int 0)] [] h rc rs n0 Q X) :
    Gm l x mX1_waitedInAll 0 0 [(0, .ref a0)] [] h rc rs n0 Q X := by
  refine g_iconst (v := 0) dX1_waitedInAll_0 (by decide) ?_
  refine g_istore_n (lv' := [(0, .ref a0), (1, .int 0)]) dX1_waitedInAll_1 rfl (by decide) rfl ?_
  refine g_iconst (v := 0) dX1_waitedInAll_2 (by decide) ?_
  refine g_istore_n (lv' := [(0, .ref a0), (1, .int 0), (2, .int 0)]) dX1_waitedInAll_3 rfl (by decide) rfl ?_
  exact K
set_option maxRecDepth 20000 in
set_option maxHeartbeats 4000000 in
theorem vX1_waitedInAll_4 {l : Launch} {x : CX} {a0 : Nat} {x1 : Int32} {x2 : Int32} {h : PH} {rc rs n0 : Nat} {Q : Option Value → PH → Prop} {X : String → PH → Prop}
    (K : ((hK h a0).1 = 1) ∧ (((hI h a0 2) ≤ x2 → Q (some (.int x1)) h) ∧ (¬ (hI h a0 2) ≤ x2 → ∃ b3, (hR h a0 14 = some b3) ∧ ((hK h b3).1 = 106) ∧ (vp_in x2 (hK h b3).2) ∧ ∃ b7, (hR h b3 x2.toNatClampNeg = some b7) ∧ ((hK h b7).1 = 6) ∧ Gm l x mX1_waitedInAll 0 4 [(0, .ref a0), (1, .int (x1 + (hI h b7 7))), (2, .int (x2 + 1))] [] h rc rs n0 Q X))) :
    Gm l x mX1_waitedInAll 0 4 [(0, .ref a0), (1, .int x1), (2, .int x2)] [] h rc rs n0 Q X := by
  refine g_iload_n dX1_waitedInAll_4 rfl 2 rfl ?_
  refine g_aload_n dX1_waitedInAll_5 rfl 0 rfl ?_
  obtain ⟨e1, K⟩ := K
  refine g_get (c := 1) (k := 2) (v := .int (hI h a0 2)) dX1_waitedInAll_6 fc_1 (by decide) (by decide) bw_192 rfl e1 ?_
  refine g_icmp_ge (tgt := 30) dX1_waitedInAll_9 (by decide) (fun c2 => ?_) (fun c2 => ?_)
  · replace K := K.1 c2
    refine g_iload_n dX1_waitedInAll_30 rfl 1 rfl ?_
    exact g_iret dX1_waitedInAll_31 rfl K
  · replace K := K.2 c2
    refine g_iload_n dX1_waitedInAll_12 rfl 1 rfl ?_
    refine g_aload_n dX1_waitedInAll_13 rfl 0 rfl ?_
    obtain ⟨b3, e4, K⟩ := K
    refine g_get (c := 1) (k := 14) (v := .ref b3) dX1_waitedInAll_14 fc_1 (by decide) (by decide) bw_226 (congrArg pr e4) e1 ?_
    refine g_iload_n dX1_waitedInAll_17 rfl 2 rfl ?_
    obtain ⟨e5, e6, b7, e8, K⟩ := K
    refine g_aald (t := 6) (v := .ref b7) dX1_waitedInAll_18 (Or.inr (Or.inl rfl)) e5 e6 (congrArg pr e8) ?_
    obtain ⟨e9, K⟩ := K
    refine g_get (c := 6) (k := 7) (v := .int (hI h b7 7)) dX1_waitedInAll_19 fc_6 (by decide) (by decide) bw_157 rfl e9 ?_
    refine g_iadd dX1_waitedInAll_22 ?_
    refine g_istore_n (lv' := [(0, .ref a0), (1, .int (x1 + (hI h b7 7))), (2, .int x2)]) dX1_waitedInAll_23 rfl (by decide) rfl ?_
    refine g_iinc (v := (x2 + 1)) (lv' := [(0, .ref a0), (1, .int (x1 + (hI h b7 7))), (2, .int (x2 + 1))]) dX1_waitedInAll_24 2 rfl (by rfl) (by decide) rfl ?_
    refine g_goto (tgt := 4) dX1_waitedInAll_27 (by decide) ?_
    exact K
theorem dX1_passedInAll_0 : decode cX1_passedInAll 0 = .ok (.iconst 0, 1) := by decide +kernel
theorem dX1_passedInAll_1 : decode cX1_passedInAll 1 = .ok (.istore_n 1, 1) := by decide +kernel
theorem dX1_passedInAll_2 : decode cX1_passedInAll 2 = .ok (.iconst 0, 1) := by decide +kernel
theorem dX1_passedInAll_3 : decode cX1_passedInAll 3 = .ok (.istore_n 2, 1) := by decide +kernel
theorem dX1_passedInAll_4 : decode cX1_passedInAll 4 = .ok (.iload_n 2, 1) := by decide +kernel
theorem dX1_passedInAll_5 : decode cX1_passedInAll 5 = .ok (.aload_n 0, 1) := by decide +kernel
theorem dX1_passedInAll_6 : decode cX1_passedInAll 6 = .ok (.getfield 15, 3) := by decide +kernel
theorem dX1_passedInAll_9 : decode cX1_passedInAll 9 = .ok (.if_icmp .ge 21, 3) := by decide +kernel
theorem dX1_passedInAll_12 : decode cX1_passedInAll 12 = .ok (.iload_n 1, 1) := by decide +kernel
theorem dX1_passedInAll_13 : decode cX1_passedInAll 13 = .ok (.aload_n 0, 1) := by decide +kernel
theorem dX1_passedInAll_14 : decode cX1_passedInAll 14 = .ok (.getfield 54, 3) := by decide +kernel
theorem dX1_passedInAll_17 : decode cX1_passedInAll 17 = .ok (.iload_n 2, 1) := by decide +kernel
theorem dX1_passedInAll_18 : decode cX1_passedInAll 18 = .ok (.aaload, 1) := by decide +kernel
theorem dX1_passedInAll_19 : decode cX1_passedInAll 19 = .ok (.getfield 227, 3) := by decide +kernel
theorem dX1_passedInAll_22 : decode cX1_passedInAll 22 = .ok (.iadd, 1) := by decide +kernel
theorem dX1_passedInAll_23 : decode cX1_passedInAll 23 = .ok (.istore_n 1, 1) := by decide +kernel
theorem dX1_passedInAll_24 : decode cX1_passedInAll 24 = .ok (.iinc 2 1, 3) := by decide +kernel
theorem dX1_passedInAll_27 : decode cX1_passedInAll 27 = .ok (.goto (-23), 3) := by decide +kernel
theorem dX1_passedInAll_30 : decode cX1_passedInAll 30 = .ok (.iload_n 1, 1) := by decide +kernel
theorem dX1_passedInAll_31 : decode cX1_passedInAll 31 = .ok (.ireturn, 1) := by decide +kernel
set_option maxRecDepth 20000 in
set_option maxHeartbeats 4000000 in
theorem vX1_passedInAll_0 {l : Launch} {x : CX} {a0 : Nat} {h : PH} {rc rs n0 : Nat} {Q : Option Value → PH → Prop} {X : String → PH → Prop}
    (K : Gm l x mX1_passedInAll 0 4 [(0, .ref a0), (1, .int 0), (2, .int 0)] [] h rc rs n0 Q X) :
    Gm l x mX1_passedInAll 0 0 [(0, .ref a0)] [] h rc rs n0 Q X := by
  refine g_iconst (v := 0) dX1_passedInAll_0 (by decide) ?_
  refine g_istore_n (lv' := [(0, .ref a0), (1, .int 0)]) dX1_passedInAll_1 rfl (by decide) rfl ?_
  refine g_iconst (v := 0) dX1_passedInAll_2 (by decide) ?_
  refine g_istore_n (lv' := [(0, .ref a0), (1, .int 0), (2, .int 0)]) dX1_passedInAll_3 rfl (by decide) rfl ?_
  exact K
set_option maxRecDepth 20000 in
set_option maxHeartbeats 4000000 in
theorem vX1_passedInAll_4 {l : Launch} {x : CX} {a0 : Nat} {x1 : Int32} {x2 : Int32} {h : PH} {rc rs n0 : Nat} {Q : Option Value → PH → Prop} {X : String → PH → Prop}
    (K : ((hK h a0).1 = 1) ∧ (((hI h a0 1) ≤ x2 → Q (some (.int x1)) h) ∧ (¬ (hI h a0 1) ≤ x2 → ∃ b3, (hR h a0 13 = some b3) ∧ ((hK h b3).1 = 105) ∧ (vp_in x2 (hK h b3).2) ∧ ∃ b7, (hR h b3 x2.toNatClampNeg = some b7) ∧ ((hK h b7).1 = 2) ∧ Gm l x mX1_passedInAll 0 4 [(0, .ref a0), (1, .int (x1 + (hI h b7 8))), (2, .int (x2 + 1))] [] h rc rs n0 Q X))) :
    Gm l x mX1_passedInAll 0 4 [(0, .ref a0), (1, .int x1), (2, .int x2)] [] h rc rs n0 Q X := by
  refine g_iload_n dX1_passedInAll_4 rfl 2 rfl ?_
  refine g_aload_n dX1_passedInAll_5 rfl 0 rfl ?_
  obtain ⟨e1, K⟩ := K
  refine g_get (c := 1) (k := 1) (v := .int (hI h a0 1)) dX1_passedInAll_6 fc_1 (by decide) (by decide) bw_188 rfl e1 ?_
  refine g_icmp_ge (tgt := 30) dX1_passedInAll_9 (by decide) (fun c2 => ?_) (fun c2 => ?_)
  · replace K := K.1 c2
    refine g_iload_n dX1_passedInAll_30 rfl 1 rfl ?_
    exact g_iret dX1_passedInAll_31 rfl K
  · replace K := K.2 c2
    refine g_iload_n dX1_passedInAll_12 rfl 1 rfl ?_
    refine g_aload_n dX1_passedInAll_13 rfl 0 rfl ?_
    obtain ⟨b3, e4, K⟩ := K
    refine g_get (c := 1) (k := 13) (v := .ref b3) dX1_passedInAll_14 fc_1 (by decide) (by decide) bw_223 (congrArg pr e4) e1 ?_
    refine g_iload_n dX1_passedInAll_17 rfl 2 rfl ?_
    obtain ⟨e5, e6, b7, e8, K⟩ := K
    refine g_aald (t := 5) (v := .ref b7) dX1_passedInAll_18 (Or.inl rfl) e5 e6 (congrArg pr e8) ?_
    obtain ⟨e9, K⟩ := K
    refine g_get (c := 2) (k := 8) (v := .int (hI h b7 8)) dX1_passedInAll_19 fc_2 (by decide) (by decide) bw_80 rfl e9 ?_
    refine g_iadd dX1_passedInAll_22 ?_
    refine g_istore_n (lv' := [(0, .ref a0), (1, .int (x1 + (hI h b7 8))), (2, .int x2)]) dX1_passedInAll_23 rfl (by decide) rfl ?_
    refine g_iinc (v := (x2 + 1)) (lv' := [(0, .ref a0), (1, .int (x1 + (hI h b7 8))), (2, .int (x2 + 1))]) dX1_passedInAll_24 2 rfl (by rfl) (by decide) rfl ?_
    refine g_goto (tgt := 4) dX1_passedInAll_27 (by decide) ?_
    exact K
theorem dX1_workInAll_0 : decode cX1_workInAll 0 = .ok (.fconst 0, 1) := by decide +kernel
theorem dX1_workInAll_1 : decode cX1_workInAll 1 = .ok (.fstore_n 1, 1) := by decide +kernel
theorem dX1_workInAll_2 : decode cX1_workInAll 2 = .ok (.iconst 0, 1) := by decide +kernel
theorem dX1_workInAll_3 : decode cX1_workInAll 3 = .ok (.istore_n 2, 1) := by decide +kernel
theorem dX1_workInAll_4 : decode cX1_workInAll 4 = .ok (.iload_n 2, 1) := by decide +kernel
theorem dX1_workInAll_5 : decode cX1_workInAll 5 = .ok (.aload_n 0, 1) := by decide +kernel
theorem dX1_workInAll_6 : decode cX1_workInAll 6 = .ok (.getfield 15, 3) := by decide +kernel
theorem dX1_workInAll_9 : decode cX1_workInAll 9 = .ok (.if_icmp .ge 21, 3) := by decide +kernel
theorem dX1_workInAll_12 : decode cX1_workInAll 12 = .ok (.fload_n 1, 1) := by decide +kernel
theorem dX1_workInAll_13 : decode cX1_workInAll 13 = .ok (.aload_n 0, 1) := by decide +kernel
theorem dX1_workInAll_14 : decode cX1_workInAll 14 = .ok (.getfield 54, 3) := by decide +kernel
theorem dX1_workInAll_17 : decode cX1_workInAll 17 = .ok (.iload_n 2, 1) := by decide +kernel
theorem dX1_workInAll_18 : decode cX1_workInAll 18 = .ok (.aaload, 1) := by decide +kernel
theorem dX1_workInAll_19 : decode cX1_workInAll 19 = .ok (.getfield 230, 3) := by decide +kernel
theorem dX1_workInAll_22 : decode cX1_workInAll 22 = .ok (.fadd, 1) := by decide +kernel
theorem dX1_workInAll_23 : decode cX1_workInAll 23 = .ok (.fstore_n 1, 1) := by decide +kernel
theorem dX1_workInAll_24 : decode cX1_workInAll 24 = .ok (.iinc 2 1, 3) := by decide +kernel
theorem dX1_workInAll_27 : decode cX1_workInAll 27 = .ok (.goto (-23), 3) := by decide +kernel
theorem dX1_workInAll_30 : decode cX1_workInAll 30 = .ok (.fload_n 1, 1) := by decide +kernel
theorem dX1_workInAll_31 : decode cX1_workInAll 31 = .ok (.freturn, 1) := by decide +kernel
set_option maxRecDepth 20000 in
set_option maxHeartbeats 4000000 in
theorem vX1_workInAll_0 {l : Launch} {x : CX} {a0 : Nat} {h : PH} {rc rs n0 : Nat} {Q : Option Value → PH → Prop} {X : String → PH → Prop}
    (K : Gm l x mX1_workInAll 0 4 [(0, .ref a0), (1, .float FP.fconst0), (2, .int 0)] [] h rc rs n0 Q X) :
    Gm l x mX1_workInAll 0 0 [(0, .ref a0)] [] h rc rs n0 Q X := by
  refine g_fconst0 dX1_workInAll_0 ?_
  refine g_fstore_n (lv' := [(0, .ref a0), (1, .float FP.fconst0)]) dX1_workInAll_1 rfl (by decide) rfl ?_
  refine g_iconst (v := 0) dX1_workInAll_2 (by decide) ?_
  refine g_istore_n (lv' := [(0, .ref a0), (1, .float FP.fconst0), (2, .int 0)]) dX1_workInAll_3 rfl (by decide) rfl ?_
  exact K
set_option maxRecDepth 20000 in
set_option maxHeartbeats 4000000 in
theorem vX1_workInAll_4 {l : Launch} {x : CX} {a0 : Nat} {f1 : UInt32} {x2 : Int32} {h : PH} {rc rs n0 : Nat} {Q : Option Value → PH → Prop} {X : String → PH → Prop}
    (K : ((hK h a0).1 = 1) ∧ (((hI h a0 1) ≤ x2 → Q (some (.float f1)) h) ∧ (¬ (hI h a0 1) ≤ x2 → ∃ b3, (hR h a0 13 = some b3) ∧ ((hK h b3).1 = 105) ∧ (vp_in x2 (hK h b3).2) ∧ ∃ b7, (hR h b3 x2.toNatClampNeg = some b7) ∧ ((hK h b7).1 = 2) ∧ (vf_n32 (FP.fadd f1 (hF h b7 7))) ∧ Gm l x mX1_workInAll 0 4 [(0, .ref a0), (1, .float (FP.fadd f1 (hF h b7 7))), (2, .int (x2 + 1))] [] h rc rs n0 Q X))) :
    Gm l x mX1_workInAll 0 4 [(0, .ref a0), (1, .float f1), (2, .int x2)] [] h rc rs n0 Q X := by
  refine g_iload_n dX1_workInAll_4 rfl 2 rfl ?_
  refine g_aload_n dX1_workInAll_5 rfl 0 rfl ?_
  obtain ⟨e1, K⟩ := K
  refine g_get (c := 1) (k := 1) (v := .int (hI h a0 1)) dX1_workInAll_6 fc_1 (by decide) (by decide) bw_188 rfl e1 ?_
  refine g_icmp_ge (tgt := 30) dX1_workInAll_9 (by decide) (fun c2 => ?_) (fun c2 => ?_)
  · replace K := K.1 c2
    refine g_fload_n dX1_workInAll_30 rfl 1 rfl ?_
    exact g_fret dX1_workInAll_31 rfl K
  · replace K := K.2 c2
    refine g_fload_n dX1_workInAll_12 rfl 1 rfl ?_
    refine g_aload_n dX1_workInAll_13 rfl 0 rfl ?_
    obtain ⟨b3, e4, K⟩ := K
    refine g_get (c := 1) (k := 13) (v := .ref b3) dX1_workInAll_14 fc_1 (by decide) (by decide) bw_223 (congrArg pr e4) e1 ?_
    refine g_iload_n dX1_workInAll_17 rfl 2 rfl ?_
    obtain ⟨e5, e6, b7, e8, K⟩ := K
    refine g_aald (t := 5) (v := .ref b7) dX1_workInAll_18 (Or.inl rfl) e5 e6 (congrArg pr e8) ?_
    obtain ⟨e9, K⟩ := K
    refine g_get (c := 2) (k := 7) (v := .float (hF h b7 7)) dX1_workInAll_19 fc_2 (by decide) (by decide) bw_78 rfl e9 ?_
    obtain ⟨e10, K⟩ := K
    refine g_fadd dX1_workInAll_22 e10 ?_
    refine g_fstore_n (lv' := [(0, .ref a0), (1, .float (FP.fadd f1 (hF h b7 7))), (2, .int x2)]) dX1_workInAll_23 rfl (by decide) rfl ?_
    refine g_iinc (v := (x2 + 1)) (lv' := [(0, .ref a0), (1, .float (FP.fadd f1 (hF h b7 7))), (2, .int (x2 + 1))]) dX1_workInAll_24 2 rfl (by rfl) (by decide) rfl ?_
    refine g_goto (tgt := 4) dX1_workInAll_27 (by decide) ?_
    exact K
theorem dX1_stopped_0 : decode cX1_stopped 0 = .ok (.iconst 0, 1) := by decide +kernel
theorem dX1_stopped_1 : decode cX1_stopped 1 = .ok (.istore_n 1, 1) := by decide +kernel
theorem dX1_stopped_2 : decode cX1_stopped 2 = .ok (.iconst 0, 1) := by decide +kernel
theorem dX1_stopped_3 : decode cX1_stopped 3 = .ok (.istore_n 2, 1) := by decide +kernel
theorem dX1_stopped_4 : decode cX1_stopped 4 = .ok (.iload_n 2, 1) := by decide +kernel
theorem dX1_stopped_5 : decode cX1_stopped 5 = .ok (.aload_n 0, 1) := by decide +kernel
theorem dX1_stopped_6 : decode cX1_stopped 6 = .ok (.getfield 15, 3) := by decide +kernel
theorem dX1_stopped_9 : decode cX1_stopped 9 = .ok (.if_icmp .ge 24, 3) := by decide +kernel
theorem dX1_stopped_12 : decode cX1_stopped 12 = .ok (.aload_n 0, 1) := by decide +kernel
theorem dX1_stopped_13 : decode cX1_stopped 13 = .ok (.getfield 54, 3) := by decide +kernel
theorem dX1_stopped_16 : decode cX1_stopped 16 = .ok (.iload_n 2, 1) := by decide +kernel
theorem dX1_stopped_17 : decode cX1_stopped 17 = .ok (.aaload, 1) := by decide +kernel
theorem dX1_stopped_18 : decode cX1_stopped 18 = .ok (.getfield 159, 3) := by decide +kernel
theorem dX1_stopped_21 : decode cX1_stopped 21 = .ok (.ifCond .le 6, 3) := by decide +kernel
theorem dX1_stopped_24 : decode cX1_stopped 24 = .ok (.iinc 1 1, 3) := by decide +kernel
theorem dX1_stopped_27 : decode cX1_stopped 27 = .ok (.iinc 2 1, 3) := by decide +kernel
theorem dX1_stopped_30 : decode cX1_stopped 30 = .ok (.goto (-26), 3) := by decide +kernel
theorem dX1_stopped_33 : decode cX1_stopped 33 = .ok (.iload_n 1, 1) := by decide +kernel
theorem dX1_stopped_34 : decode cX1_stopped 34 = .ok (.ireturn, 1) := by decide +kernel
set_option maxRecDepth 20000 in
set_option maxHeartbeats 4000000 in
theorem vX1_stopped_0 {l : Launch} {x : CX} {a0 : Nat} {h : PH} {rc rs n0 : Nat} {Q : Option Value → PH → Prop} {X : String → PH → Prop}
    (K : Gm l x mX1_stopped 0 4 [(0, .ref a0), (1, .int 0), (2, .int 0)] [] h rc rs n0 Q X) :
    Gm l x mX1_stopped 0 0 [(0, .ref a0)] [] h rc rs n0 Q X := by
  refine g_iconst (v := 0) dX1_stopped_0 (by decide) ?_
  refine g_istore_n (lv' := [(0, .ref a0), (1, .int 0)]) dX1_stopped_1 rfl (by decide) rfl ?_
  refine g_iconst (v := 0) dX1_stopped_2 (by decide) ?_
  refine g_istore_n (lv' := [(0, .ref a0), (1, .int 0), (2, .int 0)]) dX1_stopped_3 rfl (by decide) rfl ?_
  exact K
set_option maxRecDepth 20000 in
set_option maxHeartbeats 4000000 in
theorem vX1_stopped_4 {l : Launch} {x : CX} {a0 : Nat} {x1 : Int32} {x2 : Int32} {h : PH} {rc rs n0 : Nat} {Q : Option Value → PH → Prop} {X : String → PH → Prop}
    (K : ((hK h a0).1 = 1) ∧ (((hI h a0 1) ≤ x2 → Q (some (.int x1)) h) ∧ (¬ (hI h a0 1) ≤ x2 → ∃ b3, (hR h a0 13 = some b3) ∧ ((hK h b3).1 = 105) ∧ (vp_in x2 (hK h b3).2) ∧ ∃ b7, (hR h b3 x2.toNatClampNeg = some b7) ∧ ((hK h b7).1 = 2) ∧ Gm l x mX1_stopped 0 4 [(0, .ref a0), (1, .int (if (hI h b7 5) ≤ 0 then x1 else (x1 + 1) : Int32)), (2, .int (x2 + 1))] [] h rc rs n0 Q X))) :
    Gm l x mX1_stopped 0 4 [(0, .ref a0), (1, .int x1), (2, .int x2)] [] h rc rs n0 Q X := by
  refine g_iload_n dX1_stopped_4 rfl 2 rfl ?_
  refine g_aload_n dX1_stopped_5 rfl 0 rfl ?_
  obtain ⟨e1, K⟩ := K
  refine g_get (c := 1) (k := 1) (v := .int (hI h a0 1)) dX1_stopped_6 fc_1 (by decide) (by decide) bw_188 rfl e1 ?_
  refine g_icmp_ge (tgt := 33) dX1_stopped_9 (by decide) (fun c2 => ?_) (fun c2 => ?_)
  · replace K := K.1 c2
    refine g_iload_n dX1_stopped_33 rfl 1 rfl ?_
    exact g_iret dX1_stopped_34 rfl K
  · replace K := K.2 c2
    refine g_aload_n dX1_stopped_12 rfl 0 rfl ?_
    obtain ⟨b3, e4, K⟩ := K
    refine g_get (c := 1) (k := 13) (v := .ref b3) dX1_stopped_13 fc_1 (by decide) (by decide) bw_223 (congrArg pr e4) e1 ?_
    refine g_iload_n dX1_stopped_16 rfl 2 rfl ?_
    obtain ⟨e5, e6, b7, e8, K⟩ := K
    refine g_aald (t := 5) (v := .ref b7) dX1_stopped_17 (Or.inl rfl) e5 e6 (congrArg pr e8) ?_
    obtain ⟨e9, K⟩ := K
    refine g_get (c := 2) (k := 5) (v := .int (hI h b7 5)) dX1_stopped_18 fc_2 (by decide) (by decide) bw_71 rfl e9 ?_
    have KJ : Gm l x mX1_stopped 0 27 [(0, .ref a0), (1, .int (if (hI h b7 5) ≤ 0 then x1 else (x1 + 1) : Int32)), (2, .int x2)] [] h rc rs n0 Q X := by
      refine g_iinc (v := (x2 + 1)) (lv' := [(0, .ref a0), (1, .int (if (hI h b7 5) ≤ 0 then x1 else (x1 + 1) : Int32)), (2, .int (x2 + 1))]) dX1_stopped_27 2 rfl (by rfl) (by decide) rfl ?_
      refine g_goto (tgt := 4) dX1_stopped_30 (by decide) ?_
      exact K
    refine g_if_le (tgt := 27) dX1_stopped_21 (by decide) (fun c10 => ?_) (fun c10 => ?_)
    · first | (simp only [if_pos c10] at KJ; exact KJ) | (simp only [if_pos c10, ite_true, ite_false, eq_self] at KJ; exact KJ) | (simp only [if_pos c10] at KJ ⊢; exact KJ) | exact KJ
    · refine g_iinc (v := (x1 + 1)) (lv' := [(0, .ref a0), (1, .int (x1 + 1)), (2, .int x2)]) dX1_stopped_24 1 rfl (by rfl) (by decide) rfl ?_
      first | (simp only [if_neg c10] at KJ; exact KJ) | (simp only [if_neg c10, ite_true, ite_false, eq_self] at KJ; exact KJ) | (simp only [if_neg c10] at KJ ⊢; exact KJ) | exact KJ
theorem dX1_worst_0 : decode cX1_worst 0 = .ok (.iconst (-1), 1) := by decide +kernel
theorem dX1_worst_1 : decode cX1_worst 1 = .ok (.istore_n 1, 1) := by decide +kernel
theorem dX1_worst_2 : decode cX1_worst 2 = .ok (.iconst 0, 1) := by decide +kernel
theorem dX1_worst_3 : decode cX1_worst 3 = .ok (.istore_n 2, 1) := by decide +kernel
theorem dX1_worst_4 : decode cX1_worst 4 = .ok (.iload_n 2, 1) := by decide +kernel
theorem dX1_worst_5 : decode cX1_worst 5 = .ok (.aload_n 0, 1) := by decide +kernel
theorem dX1_worst_6 : decode cX1_worst 6 = .ok (.getfield 18, 3) := by decide +kernel
theorem dX1_worst_9 : decode cX1_worst 9 = .ok (.if_icmp .ge 37, 3) := by decide +kernel
theorem dX1_worst_12 : decode cX1_worst 12 = .ok (.iload_n 1, 1) := by decide +kernel
theorem dX1_worst_13 : decode cX1_worst 13 = .ok (.iconst (-1), 1) := by decide +kernel
theorem dX1_worst_14 : decode cX1_worst 14 = .ok (.if_icmp .eq 24, 3) := by decide +kernel
theorem dX1_worst_17 : decode cX1_worst 17 = .ok (.aload_n 0, 1) := by decide +kernel
theorem dX1_worst_18 : decode cX1_worst 18 = .ok (.getfield 60, 3) := by decide +kernel
theorem dX1_worst_21 : decode cX1_worst 21 = .ok (.iload_n 2, 1) := by decide +kernel
theorem dX1_worst_22 : decode cX1_worst 22 = .ok (.aaload, 1) := by decide +kernel
theorem dX1_worst_23 : decode cX1_worst 23 = .ok (.getfield 128, 3) := by decide +kernel
theorem dX1_worst_26 : decode cX1_worst 26 = .ok (.aload_n 0, 1) := by decide +kernel
theorem dX1_worst_27 : decode cX1_worst 27 = .ok (.getfield 60, 3) := by decide +kernel
theorem dX1_worst_30 : decode cX1_worst 30 = .ok (.iload_n 1, 1) := by decide +kernel
theorem dX1_worst_31 : decode cX1_worst 31 = .ok (.aaload, 1) := by decide +kernel
theorem dX1_worst_32 : decode cX1_worst 32 = .ok (.getfield 128, 3) := by decide +kernel
theorem dX1_worst_35 : decode cX1_worst 35 = .ok (.if_icmp .le 5, 3) := by decide +kernel
theorem dX1_worst_38 : decode cX1_worst 38 = .ok (.iload_n 2, 1) := by decide +kernel
theorem dX1_worst_39 : decode cX1_worst 39 = .ok (.istore_n 1, 1) := by decide +kernel
theorem dX1_worst_40 : decode cX1_worst 40 = .ok (.iinc 2 1, 3) := by decide +kernel
theorem dX1_worst_43 : decode cX1_worst 43 = .ok (.goto (-39), 3) := by decide +kernel
theorem dX1_worst_46 : decode cX1_worst 46 = .ok (.iload_n 1, 1) := by decide +kernel
theorem dX1_worst_47 : decode cX1_worst 47 = .ok (.ireturn, 1) := by decide +kernel
set_option maxRecDepth 20000 in
set_option maxHeartbeats 4000000 in
theorem vX1_worst_0 {l : Launch} {x : CX} {a0 : Nat} {h : PH} {rc rs n0 : Nat} {Q : Option Value → PH → Prop} {X : String → PH → Prop}
    (K : Gm l x mX1_worst 0 4 [(0, .ref a0), (1, .int (-1)), (2, .int 0)] [] h rc rs n0 Q X) :
    Gm l x mX1_worst 0 0 [(0, .ref a0)] [] h rc rs n0 Q X := by
  refine g_iconst (v := (-1)) dX1_worst_0 (by decide) ?_
  refine g_istore_n (lv' := [(0, .ref a0), (1, .int (-1))]) dX1_worst_1 rfl (by decide) rfl ?_
  refine g_iconst (v := 0) dX1_worst_2 (by decide) ?_
  refine g_istore_n (lv' := [(0, .ref a0), (1, .int (-1)), (2, .int 0)]) dX1_worst_3 rfl (by decide) rfl ?_
  exact K
set_option maxRecDepth 20000 in
set_option maxHeartbeats 4000000 in
theorem vX1_worst_4 {l : Launch} {x : CX} {a0 : Nat} {x1 : Int32} {x2 : Int32} {h : PH} {rc rs n0 : Nat} {Q : Option Value → PH → Prop} {X : String → PH → Prop}
    (K : ((hK h a0).1 = 1) ∧ (((hI h a0 2) ≤ x2 → Q (some (.int x1)) h) ∧ (¬ (hI h a0 2) ≤ x2 → ((x1 = (-1) → Gm l x mX1_worst 0 4 [(0, .ref a0), (1, .int x2), (2, .int (x2 + 1))] [] h rc rs n0 Q X) ∧ (¬ x1 = (-1) → ∃ b4, (hR h a0 14 = some b4) ∧ ((hK h b4).1 = 106) ∧ (vp_in x2 (hK h b4).2) ∧ ∃ b8, (hR h b4 x2.toNatClampNeg = some b8) ∧ ((hK h b8).1 = 6) ∧ (vp_in x1 (hK h b4).2) ∧ ∃ b12, (hR h b4 x1.toNatClampNeg = some b12) ∧ ((hK h b12).1 = 6) ∧ Gm l x mX1_worst 0 4 [(0, .ref a0), (1, .int (if (hI h b8 7) ≤ (hI h b12 7) then x1 else x2 : Int32)), (2, .int (x2 + 1))] [] h rc rs n0 Q X))))) :
    Gm l x mX1_worst 0 4 [(0, .ref a0), (1, .int x1), (2, .int x2)] [] h rc rs n0 Q X := by
  refine g_iload_n dX1_worst_4 rfl 2 rfl ?_
  refine g_aload_n dX1_worst_5 rfl 0 rfl ?_
  obtain ⟨e1, K⟩ := K
  refine g_get (c := 1) (k := 2) (v := .int (hI h a0 2)) dX1_worst_6 fc_1 (by decide) (by decide) bw_192 rfl e1 ?_
  refine g_icmp_ge (tgt := 46) dX1_worst_9 (by decide) (fun c2 => ?_) (fun c2 => ?_)
  · replace K := K.1 c2
    refine g_iload_n dX1_worst_46 rfl 1 rfl ?_
    exact g_iret dX1_worst_47 rfl K
  · replace K := K.2 c2
    refine g_iload_n dX1_worst_12 rfl 1 rfl ?_
    refine g_iconst (v := (-1)) dX1_worst_13 (by decide) ?_
    refine g_icmp_eq (tgt := 38) dX1_worst_14 (by decide) (fun c3 => ?_) (fun c3 => ?_)
    · replace K := K.1 c3
      refine g_iload_n dX1_worst_38 rfl 2 rfl ?_
      refine g_istore_n (lv' := [(0, .ref a0), (1, .int x2), (2, .int x2)]) dX1_worst_39 rfl (by decide) rfl ?_
      refine g_iinc (v := (x2 + 1)) (lv' := [(0, .ref a0), (1, .int x2), (2, .int (x2 + 1))]) dX1_worst_40 2 rfl (by rfl) (by decide) rfl ?_
      refine g_goto (tgt := 4) dX1_worst_43 (by decide) ?_
      exact K
    · replace K := K.2 c3
      refine g_aload_n dX1_worst_17 rfl 0 rfl ?_
      obtain ⟨b4, e5, K⟩ := K
      refine g_get (c := 1) (k := 14) (v := .ref b4) dX1_worst_18 fc_1 (by decide) (by decide) bw_226 (congrArg pr e5) e1 ?_
      refine g_iload_n dX1_worst_21 rfl 2 rfl ?_
      obtain ⟨e6, e7, b8, e9, K⟩ := K
      refine g_aald (t := 6) (v := .ref b8) dX1_worst_22 (Or.inr (Or.inl rfl)) e6 e7 (congrArg pr e9) ?_
      obtain ⟨e10, K⟩ := K
      refine g_get (c := 6) (k := 7) (v := .int (hI h b8 7)) dX1_worst_23 fc_6 (by decide) (by decide) bw_157 rfl e10 ?_
      refine g_aload_n dX1_worst_26 rfl 0 rfl ?_
      refine g_get (c := 1) (k := 14) (v := .ref b4) dX1_worst_27 fc_1 (by decide) (by decide) bw_226 (congrArg pr e5) e1 ?_
      refine g_iload_n dX1_worst_30 rfl 1 rfl ?_
      obtain ⟨e11, b12, e13, K⟩ := K
      refine g_aald (t := 6) (v := .ref b12) dX1_worst_31 (Or.inr (Or.inl rfl)) e6 e11 (congrArg pr e13) ?_
      obtain ⟨e14, K⟩ := K
      refine g_get (c := 6) (k := 7) (v := .int (hI h b12 7)) dX1_worst_32 fc_6 (by decide) (by decide) bw_157 rfl e14 ?_
      have KJ : Gm l x mX1_worst 0 40 [(0, .ref a0), (1, .int (if (hI h b8 7) ≤ (hI h b12 7) then x1 else x2 : Int32)), (2, .int x2)] [] h rc rs n0 Q X := by
        refine g_iinc (v := (x2 + 1)) (lv' := [(0, .ref a0), (1, .int (if (hI h b8 7) ≤ (hI h b12 7) then x1 else x2 : Int32)), (2, .int (x2 + 1))]) dX1_worst_40 2 rfl (by rfl) (by decide) rfl ?_
        refine g_goto (tgt := 4) dX1_worst_43 (by decide) ?_
        exact K
      refine g_icmp_le (tgt := 40) dX1_worst_35 (by decide) (fun c15 => ?_) (fun c15 => ?_)
      · first | (simp only [if_pos c15] at KJ; exact KJ) | (simp only [if_pos c15, ite_true, ite_false, eq_self] at KJ; exact KJ) | (simp only [if_pos c15] at KJ ⊢; exact KJ) | exact KJ
      · refine g_iload_n dX1_worst_38 rfl 2 rfl ?_
        refine g_istore_n (lv' := [(0, .ref a0), (1, .int x2), (2, .int x2)]) dX1_worst_39 rfl (by decide) rfl ?_
        first | (simp only [if_neg c15] at KJ; exact KJ) | (simp only [if_neg c15, ite_true, ite_false, eq_self] at KJ; exact KJ) | (simp only [if_neg c15] at KJ ⊢; exact KJ) | exact KJ
theorem dX1_goAlike_0 : decode cX1_goAlike 0 = .ok (.aload_n 0, 1) := by decide +kernel
theorem dX1_goAlike_1 : decode cX1_goAlike 1 = .ok (.getfield 90, 3) := by decide +kernel
theorem dX1_goAlike_4 : decode cX1_goAlike 4 = .ok (.aload_n 1, 1) := by decide +kernel
theorem dX1_goAlike_5 : decode cX1_goAlike 5 = .ok (.getfield 90, 3) := by decide +kernel
theorem dX1_goAlike_8 : decode cX1_goAlike 8 = .ok (.if_icmp .ne 53, 3) := by decide +kernel
theorem dX1_goAlike_11 : decode cX1_goAlike 11 = .ok (.aload_n 0, 1) := by decide +kernel
theorem dX1_goAlike_12 : decode cX1_goAlike 12 = .ok (.getfield 218, 3) := by decide +kernel
theorem dX1_goAlike_15 : decode cX1_goAlike 15 = .ok (.aload_n 0, 1) := by decide +kernel
theorem dX1_goAlike_16 : decode cX1_goAlike 16 = .ok (.getfield 90, 3) := by decide +kernel
theorem dX1_goAlike_19 : decode cX1_goAlike 19 = .ok (.if_icmp .le 7, 3) := by decide +kernel
theorem dX1_goAlike_22 : decode cX1_goAlike 22 = .ok (.iconst 1, 1) := by decide +kernel
theorem dX1_goAlike_23 : decode cX1_goAlike 23 = .ok (.goto 4, 3) := by decide +kernel
theorem dX1_goAlike_26 : decode cX1_goAlike 26 = .ok (.iconst 0, 1) := by decide +kernel
theorem dX1_goAlike_27 : decode cX1_goAlike 27 = .ok (.aload_n 1, 1) := by decide +kernel
theorem dX1_goAlike_28 : decode cX1_goAlike 28 = .ok (.getfield 218, 3) := by decide +kernel
theorem dX1_goAlike_31 : decode cX1_goAlike 31 = .ok (.aload_n 1, 1) := by decide +kernel
theorem dX1_goAlike_32 : decode cX1_goAlike 32 = .ok (.getfield 90, 3) := by decide +kernel
theorem dX1_goAlike_35 : decode cX1_goAlike 35 = .ok (.if_icmp .le 7, 3) := by decide +kernel
theorem dX1_goAlike_38 : decode cX1_goAlike 38 = .ok (.iconst 1, 1) := by decide +kernel
theorem dX1_goAlike_39 : decode cX1_goAlike 39 = .ok (.goto 4, 3) := by decide +kernel
theorem dX1_goAlike_42 : decode cX1_goAlike 42 = .ok (.iconst 0, 1) := by decide +kernel
theorem dX1_goAlike_43 : decode cX1_goAlike 43 = .ok (.if_icmp .ne 18, 3) := by decide +kernel
theorem dX1_goAlike_46 : decode cX1_goAlike 46 = .ok (.aload_n 0, 1) := by decide +kernel
theorem dX1_goAlike_47 : decode cX1_goAlike 47 = .ok (.getfield 137, 3) := by decide +kernel
theorem dX1_goAlike_50 : decode cX1_goAlike 50 = .ok (.aload_n 1, 1) := by decide +kernel
theorem dX1_goAlike_51 : decode cX1_goAlike 51 = .ok (.getfield 137, 3) := by decide +kernel
theorem dX1_goAlike_54 : decode cX1_goAlike 54 = .ok (.if_icmp .ne 7, 3) := by decide +kernel
theorem dX1_goAlike_57 : decode cX1_goAlike 57 = .ok (.iconst 1, 1) := by decide +kernel
theorem dX1_goAlike_58 : decode cX1_goAlike 58 = .ok (.goto 4, 3) := by decide +kernel
theorem dX1_goAlike_61 : decode cX1_goAlike 61 = .ok (.iconst 0, 1) := by decide +kernel
theorem dX1_goAlike_62 : decode cX1_goAlike 62 = .ok (.ireturn, 1) := by decide +kernel
set_option maxRecDepth 20000 in
set_option maxHeartbeats 4000000 in
theorem vX1_goAlike_0 {l : Launch} {x : CX} {a0 : Nat} {a1 : Nat} {h : PH} {rc rs n0 : Nat} {Q : Option Value → PH → Prop} {X : String → PH → Prop}
    (K : ((hK h a0).1 = 6) ∧ ((hK h a1).1 = 6) ∧ (((if (hI h a0 2) = (hI h a1 2) then (if (hI h a0 3) ≤ (hI h a0 2) then (if (hI h a1 3) ≤ (hI h a1 2) then (if (hI h a0 0) = (hI h a1 0) then 1 else 0 : Int32) else 0 : Int32) else (if (hI h a1 3) ≤ (hI h a1 2) then 0 else (if (hI h a0 0) = (hI h a1 0) then 1 else 0 : Int32) : Int32) : Int32) else 0 : Int32) : Int32) = 0 ∨ ((if (hI h a0 2) = (hI h a1 2) then (if (hI h a0 3) ≤ (hI h a0 2) then (if (hI h a1 3) ≤ (hI h a1 2) then (if (hI h a0 0) = (hI h a1 0) then 1 else 0 : Int32) else 0 : Int32) else (if (hI h a1 3) ≤ (hI h a1 2) then 0 else (if (hI h a0 0) = (hI h a1 0) then 1 else 0 : Int32) : Int32) : Int32) else 0 : Int32) : Int32) = 1) ∧ Q (some (.int (if (hI h a0 2) = (hI h a1 2) then (if (hI h a0 3) ≤ (hI h a0 2) then (if (hI h a1 3) ≤ (hI h a1 2) then (if (hI h a0 0) = (hI h a1 0) then 1 else 0 : Int32) else 0 : Int32) else (if (hI h a1 3) ≤ (hI h a1 2) then 0 else (if (hI h a0 0) = (hI h a1 0) then 1 else 0 : Int32) : Int32) : Int32) else 0 : Int32))) h) :
    Gm l x mX1_goAlike 0 0 [(0, .ref a0), (1, .ref a1)] [] h rc rs n0 Q X := by
  refine g_aload_n dX1_goAlike_0 rfl 0 rfl ?_
  obtain ⟨e1, K⟩ := K
  refine g_get (c := 6) (k := 2) (v := .int (hI h a0 2)) dX1_goAlike_1 fc_6 (by decide) (by decide) bw_138 rfl e1 ?_
  refine g_aload_n dX1_goAlike_4 rfl 1 rfl ?_
  obtain ⟨e2, K⟩ := K
  refine g_get (c := 6) (k := 2) (v := .int (hI h a1 2)) dX1_goAlike_5 fc_6 (by decide) (by decide) bw_138 rfl e2 ?_
  have KJ : Gm l x mX1_goAlike 0 62 [(0, .ref a0), (1, .ref a1)] [.int (if (hI h a0 2) = (hI h a1 2) then (if (hI h a0 3) ≤ (hI h a0 2) then (if (hI h a1 3) ≤ (hI h a1 2) then (if (hI h a0 0) = (hI h a1 0) then 1 else 0 : Int32) else 0 : Int32) else (if (hI h a1 3) ≤ (hI h a1 2) then 0 else (if (hI h a0 0) = (hI h a1 0) then 1 else 0 : Int32) : Int32) : Int32) else 0 : Int32)] h rc rs n0 Q X := by
    exact g_zret dX1_goAlike_62 rfl K.1 K.2
  refine g_icmp_ne (tgt := 61) dX1_goAlike_8 (by decide) (fun c3 => ?_) (fun c3 => ?_)
  · refine g_iconst (v := 0) dX1_goAlike_61 (by decide) ?_
    first | (simp only [if_neg c3] at KJ; exact KJ) | (simp only [if_neg c3, ite_true, ite_false, eq_self] at KJ; exact KJ) | (simp only [if_neg c3] at KJ ⊢; exact KJ) | exact KJ
  · refine g_aload_n dX1_goAlike_11 rfl 0 rfl ?_
    refine g_get (c := 6) (k := 3) (v := .int (hI h a0 3)) dX1_goAlike_12 fc_6 (by decide) (by decide) bw_143 rfl e1 ?_
    refine g_aload_n dX1_goAlike_15 rfl 0 rfl ?_
    refine g_get (c := 6) (k := 2) (v := .int (hI h a0 2)) dX1_goAlike_16 fc_6 (by decide) (by decide) bw_138 rfl e1 ?_
    refine g_icmp_le (tgt := 26) dX1_goAlike_19 (by decide) (fun c4 => ?_) (fun c4 => ?_)
    · refine g_iconst (v := 0) dX1_goAlike_26 (by decide) ?_
      refine g_aload_n dX1_goAlike_27 rfl 1 rfl ?_
      refine g_get (c := 6) (k := 3) (v := .int (hI h a1 3)) dX1_goAlike_28 fc_6 (by decide) (by decide) bw_143 rfl e2 ?_
      refine g_aload_n dX1_goAlike_31 rfl 1 rfl ?_
      refine g_get (c := 6) (k := 2) (v := .int (hI h a1 2)) dX1_goAlike_32 fc_6 (by decide) (by decide) bw_138 rfl e2 ?_
      refine g_icmp_le (tgt := 42) dX1_goAlike_35 (by decide) (fun c5 => ?_) (fun c5 => ?_)
      · refine g_iconst (v := 0) dX1_goAlike_42 (by decide) ?_
        refine g_icmp_ne (tgt := 61) dX1_goAlike_43 (by decide) (fun c6 => ?_) (fun c6 => ?_)
        · exact absurd c6 (by decide)
        · refine g_aload_n dX1_goAlike_46 rfl 0 rfl ?_
          refine g_get (c := 6) (k := 0) (v := .int (hI h a0 0)) dX1_goAlike_47 fc_6 (by decide) (by decide) bw_131 rfl e1 ?_
          refine g_aload_n dX1_goAlike_50 rfl 1 rfl ?_
          refine g_get (c := 6) (k := 0) (v := .int (hI h a1 0)) dX1_goAlike_51 fc_6 (by decide) (by decide) bw_131 rfl e2 ?_
          refine g_icmp_ne (tgt := 61) dX1_goAlike_54 (by decide) (fun c7 => ?_) (fun c7 => ?_)
          · refine g_iconst (v := 0) dX1_goAlike_61 (by decide) ?_
            first | (simp only [if_pos c3, if_pos c4, if_pos c5, if_neg c7] at KJ; exact KJ) | (simp only [if_pos c3, if_pos c4, if_pos c5, if_neg c7, ite_true, ite_false, eq_self] at KJ; exact KJ) | (simp only [if_pos c3, if_pos c4, if_pos c5, if_neg c7] at KJ ⊢; exact KJ) | exact KJ
          · refine g_iconst (v := 1) dX1_goAlike_57 (by decide) ?_
            refine g_goto (tgt := 62) dX1_goAlike_58 (by decide) ?_
            first | (simp only [if_pos c3, if_pos c4, if_pos c5, if_pos c7] at KJ; exact KJ) | (simp only [if_pos c3, if_pos c4, if_pos c5, if_pos c7, ite_true, ite_false, eq_self] at KJ; exact KJ) | (simp only [if_pos c3, if_pos c4, if_pos c5, if_pos c7] at KJ ⊢; exact KJ) | exact KJ
      · refine g_iconst (v := 1) dX1_goAlike_38 (by decide) ?_
        refine g_goto (tgt := 43) dX1_goAlike_39 (by decide) ?_
        refine g_icmp_ne (tgt := 61) dX1_goAlike_43 (by decide) (fun c8 => ?_) (fun c8 => ?_)
        · refine g_iconst (v := 0) dX1_goAlike_61 (by decide) ?_
          first | (simp only [if_pos c3, if_pos c4, if_neg c5] at KJ; exact KJ) | (simp only [if_pos c3, if_pos c4, if_neg c5, ite_true, ite_false, eq_self] at KJ; exact KJ) | (simp only [if_pos c3, if_pos c4, if_neg c5] at KJ ⊢; exact KJ) | exact KJ
        · exact absurd c8 (by decide)
    · refine g_iconst (v := 1) dX1_goAlike_22 (by decide) ?_
      refine g_goto (tgt := 27) dX1_goAlike_23 (by decide) ?_
      refine g_aload_n dX1_goAlike_27 rfl 1 rfl ?_
      refine g_get (c := 6) (k := 3) (v := .int (hI h a1 3)) dX1_goAlike_28 fc_6 (by decide) (by decide) bw_143 rfl e2 ?_
      refine g_aload_n dX1_goAlike_31 rfl 1 rfl ?_
      refine g_get (c := 6) (k := 2) (v := .int (hI h a1 2)) dX1_goAlike_32 fc_6 (by decide) (by decide) bw_138 rfl e2 ?_
      refine g_icmp_le (tgt := 42) dX1_goAlike_35 (by decide) (fun c9 => ?_) (fun c9 => ?_)
      · refine g_iconst (v := 0) dX1_goAlike_42 (by decide) ?_
        refine g_icmp_ne (tgt := 61) dX1_goAlike_43 (by decide) (fun c10 => ?_) (fun c10 => ?_)
        · refine g_iconst (v := 0) dX1_goAlike_61 (by decide) ?_
          first | (simp only [if_pos c3, if_neg c4, if_pos c9] at KJ; exact KJ) | (simp only [if_pos c3, if_neg c4, if_pos c9, ite_true, ite_false, eq_self] at KJ; exact KJ) | (simp only [if_pos c3, if_neg c4, if_pos c9] at KJ ⊢; exact KJ) | exact KJ
        · exact absurd c10 (by decide)
      · refine g_iconst (v := 1) dX1_goAlike_38 (by decide) ?_
        refine g_goto (tgt := 43) dX1_goAlike_39 (by decide) ?_
        refine g_icmp_ne (tgt := 61) dX1_goAlike_43 (by decide) (fun c11 => ?_) (fun c11 => ?_)
        · exact absurd c11 (by decide)
        · refine g_aload_n dX1_goAlike_46 rfl 0 rfl ?_
          refine g_get (c := 6) (k := 0) (v := .int (hI h a0 0)) dX1_goAlike_47 fc_6 (by decide) (by decide) bw_131 rfl e1 ?_
          refine g_aload_n dX1_goAlike_50 rfl 1 rfl ?_
          refine g_get (c := 6) (k := 0) (v := .int (hI h a1 0)) dX1_goAlike_51 fc_6 (by decide) (by decide) bw_131 rfl e2 ?_
          refine g_icmp_ne (tgt := 61) dX1_goAlike_54 (by decide) (fun c12 => ?_) (fun c12 => ?_)
          · refine g_iconst (v := 0) dX1_goAlike_61 (by decide) ?_
            first | (simp only [if_pos c3, if_neg c4, if_neg c9, if_neg c12] at KJ; exact KJ) | (simp only [if_pos c3, if_neg c4, if_neg c9, if_neg c12, ite_true, ite_false, eq_self] at KJ; exact KJ) | (simp only [if_pos c3, if_neg c4, if_neg c9, if_neg c12] at KJ ⊢; exact KJ) | exact KJ
          · refine g_iconst (v := 1) dX1_goAlike_57 (by decide) ?_
            refine g_goto (tgt := 62) dX1_goAlike_58 (by decide) ?_
            first | (simp only [if_pos c3, if_neg c4, if_neg c9, if_pos c12] at KJ; exact KJ) | (simp only [if_pos c3, if_neg c4, if_neg c9, if_pos c12, ite_true, ite_false, eq_self] at KJ; exact KJ) | (simp only [if_pos c3, if_neg c4, if_neg c9, if_pos c12] at KJ ⊢; exact KJ) | exact KJ
theorem dX1_copyFrom_0 : decode cX1_copyFrom 0 = .ok (.aload_n 0, 1) := by decide +kernel
theorem dX1_copyFrom_1 : decode cX1_copyFrom 1 = .ok (.aload_n 1, 1) := by decide +kernel
theorem dX1_copyFrom_2 : decode cX1_copyFrom 2 = .ok (.getfield 9, 3) := by decide +kernel
theorem dX1_copyFrom_5 : decode cX1_copyFrom 5 = .ok (.putfield 9, 3) := by decide +kernel
theorem dX1_copyFrom_8 : decode cX1_copyFrom 8 = .ok (.aload_n 0, 1) := by decide +kernel
theorem dX1_copyFrom_9 : decode cX1_copyFrom 9 = .ok (.aload_n 1, 1) := by decide +kernel
theorem dX1_copyFrom_10 : decode cX1_copyFrom 10 = .ok (.getfield 15, 3) := by decide +kernel
theorem dX1_copyFrom_13 : decode cX1_copyFrom 13 = .ok (.putfield 15, 3) := by decide +kernel
theorem dX1_copyFrom_16 : decode cX1_copyFrom 16 = .ok (.aload_n 0, 1) := by decide +kernel
theorem dX1_copyFrom_17 : decode cX1_copyFrom 17 = .ok (.aload_n 1, 1) := by decide +kernel
theorem dX1_copyFrom_18 : decode cX1_copyFrom 18 = .ok (.getfield 18, 3) := by decide +kernel
theorem dX1_copyFrom_21 : decode cX1_copyFrom 21 = .ok (.putfield 18, 3) := by decide +kernel
theorem dX1_copyFrom_24 : decode cX1_copyFrom 24 = .ok (.aload_n 0, 1) := by decide +kernel
theorem dX1_copyFrom_25 : decode cX1_copyFrom 25 = .ok (.aload_n 1, 1) := by decide +kernel
theorem dX1_copyFrom_26 : decode cX1_copyFrom 26 = .ok (.getfield 21, 3) := by decide +kernel
theorem dX1_copyFrom_29 : decode cX1_copyFrom 29 = .ok (.putfield 21, 3) := by decide +kernel
theorem dX1_copyFrom_32 : decode cX1_copyFrom 32 = .ok (.aload_n 0, 1) := by decide +kernel
theorem dX1_copyFrom_33 : decode cX1_copyFrom 33 = .ok (.aload_n 1, 1) := by decide +kernel
theorem dX1_copyFrom_34 : decode cX1_copyFrom 34 = .ok (.getfield 24, 3) := by decide +kernel
theorem dX1_copyFrom_37 : decode cX1_copyFrom 37 = .ok (.putfield 24, 3) := by decide +kernel
theorem dX1_copyFrom_40 : decode cX1_copyFrom 40 = .ok (.aload_n 0, 1) := by decide +kernel
theorem dX1_copyFrom_41 : decode cX1_copyFrom 41 = .ok (.aload_n 1, 1) := by decide +kernel
theorem dX1_copyFrom_42 : decode cX1_copyFrom 42 = .ok (.getfield 27, 3) := by decide +kernel
theorem dX1_copyFrom_45 : decode cX1_copyFrom 45 = .ok (.putfield 27, 3) := by decide +kernel
theorem dX1_copyFrom_48 : decode cX1_copyFrom 48 = .ok (.aload_n 0, 1) := by decide +kernel
theorem dX1_copyFrom_49 : decode cX1_copyFrom 49 = .ok (.aload_n 1, 1) := by decide +kernel
theorem dX1_copyFrom_50 : decode cX1_copyFrom 50 = .ok (.getfield 30, 3) := by decide +kernel
theorem dX1_copyFrom_53 : decode cX1_copyFrom 53 = .ok (.putfield 30, 3) := by decide +kernel
theorem dX1_copyFrom_56 : decode cX1_copyFrom 56 = .ok (.aload_n 0, 1) := by decide +kernel
theorem dX1_copyFrom_57 : decode cX1_copyFrom 57 = .ok (.aload_n 1, 1) := by decide +kernel
theorem dX1_copyFrom_58 : decode cX1_copyFrom 58 = .ok (.getfield 33, 3) := by decide +kernel
theorem dX1_copyFrom_61 : decode cX1_copyFrom 61 = .ok (.putfield 33, 3) := by decide +kernel
theorem dX1_copyFrom_64 : decode cX1_copyFrom 64 = .ok (.aload_n 0, 1) := by decide +kernel
theorem dX1_copyFrom_65 : decode cX1_copyFrom 65 = .ok (.aload_n 1, 1) := by decide +kernel
theorem dX1_copyFrom_66 : decode cX1_copyFrom 66 = .ok (.getfield 36, 3) := by decide +kernel
theorem dX1_copyFrom_69 : decode cX1_copyFrom 69 = .ok (.putfield 36, 3) := by decide +kernel
theorem dX1_copyFrom_72 : decode cX1_copyFrom 72 = .ok (.aload_n 0, 1) := by decide +kernel
theorem dX1_copyFrom_73 : decode cX1_copyFrom 73 = .ok (.aload_n 1, 1) := by decide +kernel
theorem dX1_copyFrom_74 : decode cX1_copyFrom 74 = .ok (.getfield 40, 3) := by decide +kernel
theorem dX1_copyFrom_77 : decode cX1_copyFrom 77 = .ok (.putfield 40, 3) := by decide +kernel
theorem dX1_copyFrom_80 : decode cX1_copyFrom 80 = .ok (.aload_n 0, 1) := by decide +kernel
theorem dX1_copyFrom_81 : decode cX1_copyFrom 81 = .ok (.aload_n 1, 1) := by decide +kernel
theorem dX1_copyFrom_82 : decode cX1_copyFrom 82 = .ok (.getfield 43, 3) := by decide +kernel
theorem dX1_copyFrom_85 : decode cX1_copyFrom 85 = .ok (.putfield 43, 3) := by decide +kernel
theorem dX1_copyFrom_88 : decode cX1_copyFrom 88 = .ok (.aload_n 0, 1) := by decide +kernel
theorem dX1_copyFrom_89 : decode cX1_copyFrom 89 = .ok (.aload_n 1, 1) := by decide +kernel
theorem dX1_copyFrom_90 : decode cX1_copyFrom 90 = .ok (.getfield 46, 3) := by decide +kernel
theorem dX1_copyFrom_93 : decode cX1_copyFrom 93 = .ok (.putfield 46, 3) := by decide +kernel
theorem dX1_copyFrom_96 : decode cX1_copyFrom 96 = .ok (.aload_n 0, 1) := by decide +kernel
theorem dX1_copyFrom_97 : decode cX1_copyFrom 97 = .ok (.aload_n 1, 1) := by decide +kernel
theorem dX1_copyFrom_98 : decode cX1_copyFrom 98 = .ok (.getfield 49, 3) := by decide +kernel
theorem dX1_copyFrom_101 : decode cX1_copyFrom 101 = .ok (.putfield 49, 3) := by decide +kernel
theorem dX1_copyFrom_104 : decode cX1_copyFrom 104 = .ok (.iconst 0, 1) := by decide +kernel
theorem dX1_copyFrom_105 : decode cX1_copyFrom 105 = .ok (.istore_n 2, 1) := by decide +kernel
theorem dX1_copyFrom_106 : decode cX1_copyFrom 106 = .ok (.iload_n 2, 1) := by decide +kernel
theorem dX1_copyFrom_107 : decode cX1_copyFrom 107 = .ok (.aload_n 0, 1) := by decide +kernel
theorem dX1_copyFrom_108 : decode cX1_copyFrom 108 = .ok (.getfield 15, 3) := by decide +kernel
theorem dX1_copyFrom_111 : decode cX1_copyFrom 111 = .ok (.if_icmp .ge 24, 3) := by decide +kernel
theorem dX1_copyFrom_114 : decode cX1_copyFrom 114 = .ok (.aload_n 0, 1) := by decide +kernel
theorem dX1_copyFrom_115 : decode cX1_copyFrom 115 = .ok (.getfield 54, 3) := by decide +kernel
theorem dX1_copyFrom_118 : decode cX1_copyFrom 118 = .ok (.iload_n 2, 1) := by decide +kernel
theorem dX1_copyFrom_119 : decode cX1_copyFrom 119 = .ok (.aaload, 1) := by decide +kernel
theorem dX1_copyFrom_120 : decode cX1_copyFrom 120 = .ok (.aload_n 1, 1) := by decide +kernel
theorem dX1_copyFrom_121 : decode cX1_copyFrom 121 = .ok (.getfield 54, 3) := by decide +kernel
theorem dX1_copyFrom_124 : decode cX1_copyFrom 124 = .ok (.iload_n 2, 1) := by decide +kernel
theorem dX1_copyFrom_125 : decode cX1_copyFrom 125 = .ok (.aaload, 1) := by decide +kernel
theorem dX1_copyFrom_126 : decode cX1_copyFrom 126 = .ok (.invokevirtual 70, 3) := by decide +kernel
theorem dX1_copyFrom_129 : decode cX1_copyFrom 129 = .ok (.iinc 2 1, 3) := by decide +kernel
theorem dX1_copyFrom_132 : decode cX1_copyFrom 132 = .ok (.goto (-26), 3) := by decide +kernel
theorem dX1_copyFrom_135 : decode cX1_copyFrom 135 = .ok (.iconst 0, 1) := by decide +kernel
theorem dX1_copyFrom_136 : decode cX1_copyFrom 136 = .ok (.istore_n 2, 1) := by decide +kernel
theorem dX1_copyFrom_137 : decode cX1_copyFrom 137 = .ok (.iload_n 2, 1) := by decide +kernel
theorem dX1_copyFrom_138 : decode cX1_copyFrom 138 = .ok (.aload_n 0, 1) := by decide +kernel
theorem dX1_copyFrom_139 : decode cX1_copyFrom 139 = .ok (.getfield 18, 3) := by decide +kernel
theorem dX1_copyFrom_142 : decode cX1_copyFrom 142 = .ok (.if_icmp .ge 24, 3) := by decide +kernel
theorem dX1_copyFrom_145 : decode cX1_copyFrom 145 = .ok (.aload_n 0, 1) := by decide +kernel
theorem dX1_copyFrom_146 : decode cX1_copyFrom 146 = .ok (.getfield 60, 3) := by decide +kernel
theorem dX1_copyFrom_149 : decode cX1_copyFrom 149 = .ok (.iload_n 2, 1) := by decide +kernel
theorem dX1_copyFrom_150 : decode cX1_copyFrom 150 = .ok (.aaload, 1) := by decide +kernel
theorem dX1_copyFrom_151 : decode cX1_copyFrom 151 = .ok (.aload_n 1, 1) := by decide +kernel
theorem dX1_copyFrom_152 : decode cX1_copyFrom 152 = .ok (.getfield 60, 3) := by decide +kernel
theorem dX1_copyFrom_155 : decode cX1_copyFrom 155 = .ok (.iload_n 2, 1) := by decide +kernel
theorem dX1_copyFrom_156 : decode cX1_copyFrom 156 = .ok (.aaload, 1) := by decide +kernel
theorem dX1_copyFrom_157 : decode cX1_copyFrom 157 = .ok (.invokevirtual 74, 3) := by decide +kernel
theorem dX1_copyFrom_160 : decode cX1_copyFrom 160 = .ok (.iinc 2 1, 3) := by decide +kernel
theorem dX1_copyFrom_163 : decode cX1_copyFrom 163 = .ok (.goto (-26), 3) := by decide +kernel
theorem dX1_copyFrom_166 : decode cX1_copyFrom 166 = .ok (.return_, 1) := by decide +kernel
set_option maxRecDepth 20000 in
set_option maxHeartbeats 4000000 in
theorem vX1_copyFrom_0 {l : Launch} {x : CX} {a0 : Nat} {a1 : Nat} {h : PH} {rc rs n0 : Nat} {Q : Option Value → PH → Prop} {X : String → PH → Prop}
    (K : ((hK h a1).1 = 1) ∧ ((hK h a0).1 = 1) ∧ (((hI h a1 8) : Int32) = 0 ∨ ((hI h a1 8) : Int32) = 1) ∧ (((hI h a1 11) : Int32) = 0 ∨ ((hI h a1 11) : Int32) = 1) ∧ Gm l x mX1_copyFrom 1 106 [(0, .ref a0), (1, .ref a1), (2, .int 0)] [] (sI (sI (sI (sI (sI (sI (sI (sI (sI (sI (sI (sI (sI h a0 0 (hI h a1 0)) a0 1 (hI h a1 1)) a0 2 (hI h a1 2)) a0 3 (hI h a1 3)) a0 4 (hI h a1 4)) a0 5 (hI h a1 5)) a0 6 (hI h a1 6)) a0 7 (hI h a1 7)) a0 8 (hI h a1 8)) a0 9 (hI h a1 9)) a0 10 (hI h a1 10)) a0 11 (hI h a1 11)) a0 12 (hI h a1 12)) rc rs n0 Q X) :
    Gm l x mX1_copyFrom 1 0 [(0, .ref a0), (1, .ref a1)] [] h rc rs n0 Q X := by
  refine g_aload_n dX1_copyFrom_0 rfl 0 rfl ?_
  refine g_aload_n dX1_copyFrom_1 rfl 1 rfl ?_
  obtain ⟨e1, K⟩ := K
  refine g_get (c := 1) (k := 0) (v := .int (hI h a1 0)) dX1_copyFrom_2 fc_1 (by decide) (by decide) bw_185 rfl e1 ?_
  obtain ⟨e2, K⟩ := K
  refine g_puti (c := 1) (k := 0) dX1_copyFrom_5 fc_1 (by decide) (by decide) bw_185 (Or.inl rfl) rfl e2 ?_
  refine g_aload_n dX1_copyFrom_8 rfl 0 rfl ?_
  refine g_aload_n dX1_copyFrom_9 rfl 1 rfl ?_
  refine g_get (c := 1) (k := 1) (v := .int (hI h a1 1)) dX1_copyFrom_10 fc_1 (by decide) (by decide) bw_188 (congrArg Value.int ((skI (by decide)).trans rfl)) (kkI e1) ?_
  refine g_puti (c := 1) (k := 1) dX1_copyFrom_13 fc_1 (by decide) (by decide) bw_188 (Or.inl rfl) rfl (kkI e2) ?_
  refine g_aload_n dX1_copyFrom_16 rfl 0 rfl ?_
  refine g_aload_n dX1_copyFrom_17 rfl 1 rfl ?_
  refine g_get (c := 1) (k := 2) (v := .int (hI h a1 2)) dX1_copyFrom_18 fc_1 (by decide) (by decide) bw_192 (congrArg Value.int ((skI (by decide)).trans ((skI (by decide)).trans rfl))) (kkI (kkI e1)) ?_
  refine g_puti (c := 1) (k := 2) dX1_copyFrom_21 fc_1 (by decide) (by decide) bw_192 (Or.inl rfl) rfl (kkI (kkI e2)) ?_
  refine g_aload_n dX1_copyFrom_24 rfl 0 rfl ?_
  refine g_aload_n dX1_copyFrom_25 rfl 1 rfl ?_
  refine g_get (c := 1) (k := 3) (v := .int (hI h a1 3)) dX1_copyFrom_26 fc_1 (by decide) (by decide) bw_197 (congrArg Value.int ((skI (by decide)).trans ((skI (by decide)).trans ((skI (by decide)).trans rfl)))) (kkI (kkI (kkI e1))) ?_
  refine g_puti (c := 1) (k := 3) dX1_copyFrom_29 fc_1 (by decide) (by decide) bw_197 (Or.inl rfl) rfl (kkI (kkI (kkI e2))) ?_
  refine g_aload_n dX1_copyFrom_32 rfl 0 rfl ?_
  refine g_aload_n dX1_copyFrom_33 rfl 1 rfl ?_
  refine g_get (c := 1) (k := 4) (v := .int (hI h a1 4)) dX1_copyFrom_34 fc_1 (by decide) (by decide) bw_201 (congrArg Value.int ((skI (by decide)).trans ((skI (by decide)).trans ((skI (by decide)).trans ((skI (by decide)).trans rfl))))) (kkI (kkI (kkI (kkI e1)))) ?_
  refine g_puti (c := 1) (k := 4) dX1_copyFrom_37 fc_1 (by decide) (by decide) bw_201 (Or.inl rfl) rfl (kkI (kkI (kkI (kkI e2)))) ?_
  refine g_aload_n dX1_copyFrom_40 rfl 0 rfl ?_
  refine g_aload_n dX1_copyFrom_41 rfl 1 rfl ?_
  refine g_get (c := 1) (k := 5) (v := .int (hI h a1 5)) dX1_copyFrom_42 fc_1 (by decide) (by decide) bw_205 (congrArg Value.int ((skI (by decide)).trans ((skI (by decide)).trans ((skI (by decide)).trans ((skI (by decide)).trans ((skI (by decide)).trans rfl)))))) (kkI (kkI (kkI (kkI (kkI e1))))) ?_
  refine g_puti (c := 1) (k := 5) dX1_copyFrom_45 fc_1 (by decide) (by decide) bw_205 (Or.inl rfl) rfl (kkI (kkI (kkI (kkI (kkI e2))))) ?_
  refine g_aload_n dX1_copyFrom_48 rfl 0 rfl ?_
  refine g_aload_n dX1_copyFrom_49 rfl 1 rfl ?_
  refine g_get (c := 1) (k := 6) (v := .int (hI h a1 6)) dX1_copyFrom_50 fc_1 (by decide) (by decide) bw_209 (congrArg Value.int ((skI (by decide)).trans ((skI (by decide)).trans ((skI (by decide)).trans ((skI (by decide)).trans ((skI (by decide)).trans ((skI (by decide)).trans rfl))))))) (kkI (kkI (kkI (kkI (kkI (kkI e1)))))) ?_
  refine g_puti (c := 1) (k := 6) dX1_copyFrom_53 fc_1 (by decide) (by decide) bw_209 (Or.inl rfl) rfl (kkI (kkI (kkI (kkI (kkI (kkI e2)))))) ?_
  refine g_aload_n dX1_copyFrom_56 rfl 0 rfl ?_
  refine g_aload_n dX1_copyFrom_57 rfl 1 rfl ?_
  refine g_get (c := 1) (k := 7) (v := .int (hI h a1 7)) dX1_copyFrom_58 fc_1 (by decide) (by decide) bw_212 (congrArg Value.int ((skI (by decide)).trans ((skI (by decide)).trans ((skI (by decide)).trans ((skI (by decide)).trans ((skI (by decide)).trans ((skI (by decide)).trans ((skI (by decide)).trans rfl)))))))) (kkI (kkI (kkI (kkI (kkI (kkI (kkI e1))))))) ?_
  refine g_puti (c := 1) (k := 7) dX1_copyFrom_61 fc_1 (by decide) (by decide) bw_212 (Or.inl rfl) rfl (kkI (kkI (kkI (kkI (kkI (kkI (kkI e2))))))) ?_
  refine g_aload_n dX1_copyFrom_64 rfl 0 rfl ?_
  refine g_aload_n dX1_copyFrom_65 rfl 1 rfl ?_
  refine g_get (c := 1) (k := 8) (v := .int (hI h a1 8)) dX1_copyFrom_66 fc_1 (by decide) (by decide) bw_214 (congrArg Value.int ((skI (by decide)).trans ((skI (by decide)).trans ((skI (by decide)).trans ((skI (by decide)).trans ((skI (by decide)).trans ((skI (by decide)).trans ((skI (by decide)).trans ((skI (by decide)).trans rfl))))))))) (kkI (kkI (kkI (kkI (kkI (kkI (kkI (kkI e1)))))))) ?_
  obtain ⟨e3, K⟩ := K
  refine g_putz (c := 1) (k := 8) dX1_copyFrom_69 fc_1 (by decide) (by decide) bw_214 (Or.inl rfl) rfl e3 (kkI (kkI (kkI (kkI (kkI (kkI (kkI (kkI e2)))))))) ?_
  refine g_aload_n dX1_copyFrom_72 rfl 0 rfl ?_
  refine g_aload_n dX1_copyFrom_73 rfl 1 rfl ?_
  refine g_get (c := 1) (k := 9) (v := .int (hI h a1 9)) dX1_copyFrom_74 fc_1 (by decide) (by decide) bw_216 (congrArg Value.int ((skI (by decide)).trans ((skI (by decide)).trans ((skI (by decide)).trans ((skI (by decide)).trans ((skI (by decide)).trans ((skI (by decide)).trans ((skI (by decide)).trans ((skI (by decide)).trans ((skI (by decide)).trans rfl)))))))))) (kkI (kkI (kkI (kkI (kkI (kkI (kkI (kkI (kkI e1))))))))) ?_
  refine g_puti (c := 1) (k := 9) dX1_copyFrom_77 fc_1 (by decide) (by decide) bw_216 (Or.inl rfl) rfl (kkI (kkI (kkI (kkI (kkI (kkI (kkI (kkI (kkI e2))))))))) ?_
  refine g_aload_n dX1_copyFrom_80 rfl 0 rfl ?_
  refine g_aload_n dX1_copyFrom_81 rfl 1 rfl ?_
  refine g_get (c := 1) (k := 10) (v := .int (hI h a1 10)) dX1_copyFrom_82 fc_1 (by decide) (by decide) bw_217 (congrArg Value.int ((skI (by decide)).trans ((skI (by decide)).trans ((skI (by decide)).trans ((skI (by decide)).trans ((skI (by decide)).trans ((skI (by decide)).trans ((skI (by decide)).trans ((skI (by decide)).trans ((skI (by decide)).trans ((skI (by decide)).trans rfl))))))))))) (kkI (kkI (kkI (kkI (kkI (kkI (kkI (kkI (kkI (kkI e1)))))))))) ?_
  refine g_puti (c := 1) (k := 10) dX1_copyFrom_85 fc_1 (by decide) (by decide) bw_217 (Or.inl rfl) rfl (kkI (kkI (kkI (kkI (kkI (kkI (kkI (kkI (kkI (kkI e2)))))))))) ?_
  refine g_aload_n dX1_copyFrom_88 rfl 0 rfl ?_
  refine g_aload_n dX1_copyFrom_89 rfl 1 rfl ?_
  refine g_get (c := 1) (k := 11) (v := .int (hI h a1 11)) dX1_copyFrom_90 fc_1 (by decide) (by decide) bw_218 (congrArg Value.int ((skI (by decide)).trans ((skI (by decide)).trans ((skI (by decide)).trans ((skI (by decide)).trans ((skI (by decide)).trans ((skI (by decide)).trans ((skI (by decide)).trans ((skI (by decide)).trans ((skI (by decide)).trans ((skI (by decide)).trans ((skI (by decide)).trans rfl)))))))))))) (kkI (kkI (kkI (kkI (kkI (kkI (kkI (kkI (kkI (kkI (kkI e1))))))))))) ?_
  obtain ⟨e4, K⟩ := K
  refine g_putz (c := 1) (k := 11) dX1_copyFrom_93 fc_1 (by decide) (by decide) bw_218 (Or.inl rfl) rfl e4 (kkI (kkI (kkI (kkI (kkI (kkI (kkI (kkI (kkI (kkI (kkI e2))))))))))) ?_
  refine g_aload_n dX1_copyFrom_96 rfl 0 rfl ?_
  refine g_aload_n dX1_copyFrom_97 rfl 1 rfl ?_
  refine g_get (c := 1) (k := 12) (v := .int (hI h a1 12)) dX1_copyFrom_98 fc_1 (by decide) (by decide) bw_220 (congrArg Value.int ((skI (by decide)).trans ((skI (by decide)).trans ((skI (by decide)).trans ((skI (by decide)).trans ((skI (by decide)).trans ((skI (by decide)).trans ((skI (by decide)).trans ((skI (by decide)).trans ((skI (by decide)).trans ((skI (by decide)).trans ((skI (by decide)).trans ((skI (by decide)).trans rfl))))))))))))) (kkI (kkI (kkI (kkI (kkI (kkI (kkI (kkI (kkI (kkI (kkI (kkI e1)))))))))))) ?_
  refine g_puti (c := 1) (k := 12) dX1_copyFrom_101 fc_1 (by decide) (by decide) bw_220 (Or.inl rfl) rfl (kkI (kkI (kkI (kkI (kkI (kkI (kkI (kkI (kkI (kkI (kkI (kkI e2)))))))))))) ?_
  refine g_iconst (v := 0) dX1_copyFrom_104 (by decide) ?_
  refine g_istore_n (lv' := [(0, .ref a0), (1, .ref a1), (2, .int 0)]) dX1_copyFrom_105 rfl (by decide) rfl ?_
  exact K
set_option maxRecDepth 20000 in
set_option maxHeartbeats 4000000 in
theorem vX1_copyFrom_106 {l : Launch} {x : CX} {a0 : Nat} {a1 : Nat} {x2 : Int32} {h : PH} {rc rs n0 : Nat} {Q : Option Value → PH → Prop} {X : String → PH → Prop}
    (K : ((hK h a0).1 = 1) ∧ (((hI h a0 1) ≤ x2 → Gm l x mX1_copyFrom 1 137 [(0, .ref a0), (1, .ref a1), (2, .int 0)] [] h rc rs n0 Q X) ∧ (¬ (hI h a0 1) ≤ x2 → ∃ b3, (hR h a0 13 = some b3) ∧ ((hK h b3).1 = 105) ∧ (vp_in x2 (hK h b3).2) ∧ ∃ b7, (hR h b3 x2.toNatClampNeg = some b7) ∧ ((hK h a1).1 = 1) ∧ ∃ b10, (hR h a1 13 = some b10) ∧ ((hK h b10).1 = 105) ∧ (vp_in x2 (hK h b10).2) ∧ ∃ b14, (hR h b10 x2.toNatClampNeg = some b14) ∧ ((hK h b7).1 = 2) ∧ ∃ (q16 : PH → Prop), CV l x mX2_copyFrom 0 0 0 [.ref b7, .ref b14] h q16 ∧ ∀ (h19 : PH), q16 h19 → Gm l x mX1_copyFrom 1 106 [(0, .ref a0), (1, .ref a1), (2, .int (x2 + 1))] [] h19 rc rs n0 Q X))) :
    Gm l x mX1_copyFrom 1 106 [(0, .ref a0), (1, .ref a1), (2, .int x2)] [] h rc rs n0 Q X := by
  refine g_iload_n dX1_copyFrom_106 rfl 2 rfl ?_
  refine g_aload_n dX1_copyFrom_107 rfl 0 rfl ?_
  obtain ⟨e1, K⟩ := K
  refine g_get (c := 1) (k := 1) (v := .int (hI h a0 1)) dX1_copyFrom_108 fc_1 (by decide) (by decide) bw_188 rfl e1 ?_
  refine g_icmp_ge (tgt := 135) dX1_copyFrom_111 (by decide) (fun c2 => ?_) (fun c2 => ?_)
  · replace K := K.1 c2
    refine g_iconst (v := 0) dX1_copyFrom_135 (by decide) ?_
    refine g_istore_n (lv' := [(0, .ref a0), (1, .ref a1), (2, .int 0)]) dX1_copyFrom_136 rfl (by decide) rfl ?_
    exact K
  · replace K := K.2 c2
    refine g_aload_n dX1_copyFrom_114 rfl 0 rfl ?_
    obtain ⟨b3, e4, K⟩ := K
    refine g_get (c := 1) (k := 13) (v := .ref b3) dX1_copyFrom_115 fc_1 (by decide) (by decide) bw_223 (congrArg pr e4) e1 ?_
    refine g_iload_n dX1_copyFrom_118 rfl 2 rfl ?_
    obtain ⟨e5, e6, b7, e8, K⟩ := K
    refine g_aald (t := 5) (v := .ref b7) dX1_copyFrom_119 (Or.inl rfl) e5 e6 (congrArg pr e8) ?_
    refine g_aload_n dX1_copyFrom_120 rfl 1 rfl ?_
    obtain ⟨e9, b10, e11, K⟩ := K
    refine g_get (c := 1) (k := 13) (v := .ref b10) dX1_copyFrom_121 fc_1 (by decide) (by decide) bw_223 (congrArg pr e11) e9 ?_
    refine g_iload_n dX1_copyFrom_124 rfl 2 rfl ?_
    obtain ⟨e12, e13, b14, e15, K⟩ := K
    refine g_aald (t := 5) (v := .ref b14) dX1_copyFrom_125 (Or.inl rfl) e12 e13 (congrArg pr e15) ?_
    obtain ⟨e18, K⟩ := K
    obtain ⟨q16, C17, K⟩ := K
    refine g_callV (M' := mX2_copyFrom) (b := b7) (As := [.ref b14]) (rest := []) (rc' := rc) (rs' := rs) dX1_copyFrom_126 bw_457 bw_458 bw_459 bw_4 bw_460 ⟨by decide +kernel, by decide +kernel, show (parseMethodDescriptor mX2_copyFrom.1.desc).map (fun d => d.parameters.length) = some 1 by decide +kernel⟩ (by decide) (by decide) (Nat.le_of_ble_eq_true rfl) fc_2 (by decide) rfl e18 C17 (Nat.le_of_eq (Nat.add_zero _)) (Nat.le_of_eq (Nat.add_zero _)) (fun _ _ h => h) ?_
    rintro _ h19 ⟨rfl, K1⟩ -
    replace K := K h19 K1
    show Gm l x mX1_copyFrom 1 129 [(0, .ref a0), (1, .ref a1), (2, .int x2)] [] h19 rc rs n0 Q X
    refine g_iinc (v := (x2 + 1)) (lv' := [(0, .ref a0), (1, .ref a1), (2, .int (x2 + 1))]) dX1_copyFrom_129 2 rfl (by rfl) (by decide) rfl ?_
    refine g_goto (tgt := 106) dX1_copyFrom_132 (by decide) ?_
    exact K
set_option maxRecDepth 20000 in
set_option maxHeartbeats 4000000 in
theorem vX1_copyFrom_137 {l : Launch} {x : CX} {a0 : Nat} {a1 : Nat} {x2 : Int32} {h : PH} {rc rs n0 : Nat} {Q : Option Value → PH → Prop} {X : String → PH → Prop}
    (K : ((hK h a0).1 = 1) ∧ (((hI h a0 2) ≤ x2 → Q none h) ∧ (¬ (hI h a0 2) ≤ x2 → ∃ b3, (hR h a0 14 = some b3) ∧ ((hK h b3).1 = 106) ∧ (vp_in x2 (hK h b3).2) ∧ ∃ b7, (hR h b3 x2.toNatClampNeg = some b7) ∧ ((hK h a1).1 = 1) ∧ ∃ b10, (hR h a1 14 = some b10) ∧ ((hK h b10).1 = 106) ∧ (vp_in x2 (hK h b10).2) ∧ ∃ b14, (hR h b10 x2.toNatClampNeg = some b14) ∧ ((hK h b7).1 = 6) ∧ ∃ (q16 : PH → Prop), CV l x mX6_copyFrom 0 0 0 [.ref b7, .ref b14] h q16 ∧ ∀ (h19 : PH), q16 h19 → Gm l x mX1_copyFrom 1 137 [(0, .ref a0), (1, .ref a1), (2, .int (x2 + 1))] [] h19 rc rs n0 Q X))) :
    Gm l x mX1_copyFrom 1 137 [(0, .ref a0), (1, .ref a1), (2, .int x2)] [] h rc rs n0 Q X := by
  refine g_iload_n dX1_copyFrom_137 rfl 2 rfl ?_
  refine g_aload_n dX1_copyFrom_138 rfl 0 rfl ?_
  obtain ⟨e1, K⟩ := K
  refine g_get (c := 1) (k := 2) (v := .int (hI h a0 2)) dX1_copyFrom_139 fc_1 (by decide) (by decide) bw_192 rfl e1 ?_
  refine g_icmp_ge (tgt := 166) dX1_copyFrom_142 (by decide) (fun c2 => ?_) (fun c2 => ?_)
  · replace K := K.1 c2
    exact g_vret dX1_copyFrom_166 rfl K
  · replace K := K.2 c2
    refine g_aload_n dX1_copyFrom_145 rfl 0 rfl ?_
    obtain ⟨b3, e4, K⟩ := K
    refine g_get (c := 1) (k := 14) (v := .ref b3) dX1_copyFrom_146 fc_1 (by decide) (by decide) bw_226 (congrArg pr e4) e1 ?_
    refine g_iload_n dX1_copyFrom_149 rfl 2 rfl ?_
    obtain ⟨e5, e6, b7, e8, K⟩ := K
    refine g_aald (t := 6) (v := .ref b7) dX1_copyFrom_150 (Or.inr (Or.inl rfl)) e5 e6 (congrArg pr e8) ?_
    refine g_aload_n dX1_copyFrom_151 rfl 1 rfl ?_
    obtain ⟨e9, b10, e11, K⟩ := K
    refine g_get (c := 1) (k := 14) (v := .ref b10) dX1_copyFrom_152 fc_1 (by decide) (by decide) bw_226 (congrArg pr e11) e9 ?_
    refine g_iload_n dX1_copyFrom_155 rfl 2 rfl ?_
    obtain ⟨e12, e13, b14, e15, K⟩ := K
    refine g_aald (t := 6) (v := .ref b14) dX1_copyFrom_156 (Or.inr (Or.inl rfl)) e12 e13 (congrArg pr e15) ?_
    obtain ⟨e18, K⟩ := K
    obtain ⟨q16, C17, K⟩ := K
    refine g_callV (M' := mX6_copyFrom) (b := b7) (As := [.ref b14]) (rest := []) (rc' := rc) (rs' := rs) dX1_copyFrom_157 bw_461 bw_462 bw_463 bw_5 bw_464 ⟨by decide +kernel, by decide +kernel, show (parseMethodDescriptor mX6_copyFrom.1.desc).map (fun d => d.parameters.length) = some 1 by decide +kernel⟩ (by decide) (by decide) (Nat.le_of_ble_eq_true rfl) fc_6 (by decide) rfl e18 C17 (Nat.le_of_eq (Nat.add_zero _)) (Nat.le_of_eq (Nat.add_zero _)) (fun _ _ h => h) ?_
    rintro _ h19 ⟨rfl, K1⟩ -
    replace K := K h19 K1
    show Gm l x mX1_copyFrom 1 160 [(0, .ref a0), (1, .ref a1), (2, .int x2)] [] h19 rc rs n0 Q X
    refine g_iinc (v := (x2 + 1)) (lv' := [(0, .ref a0), (1, .ref a1), (2, .int (x2 + 1))]) dX1_copyFrom_160 2 rfl (by rfl) (by decide) rfl ?_
    refine g_goto (tgt := 137) dX1_copyFrom_163 (by decide) ?_
    exact K
theorem dX1_addRider_0 : decode cX1_addRider 0 = .ok (.aload_n 0, 1) := by decide +kernel
theorem dX1_addRider_1 : decode cX1_addRider 1 = .ok (.getfield 18, 3) := by decide +kernel
theorem dX1_addRider_4 : decode cX1_addRider 4 = .ok (.bipush 24, 2) := by decide +kernel
theorem dX1_addRider_6 : decode cX1_addRider 6 = .ok (.if_icmp .ge 30, 3) := by decide +kernel
theorem dX1_addRider_9 : decode cX1_addRider 9 = .ok (.aload_n 0, 1) := by decide +kernel
theorem dX1_addRider_10 : decode cX1_addRider 10 = .ok (.getfield 60, 3) := by decide +kernel
theorem dX1_addRider_13 : decode cX1_addRider 13 = .ok (.aload_n 0, 1) := by decide +kernel
theorem dX1_addRider_14 : decode cX1_addRider 14 = .ok (.getfield 18, 3) := by decide +kernel
theorem dX1_addRider_17 : decode cX1_addRider 17 = .ok (.aaload, 1) := by decide +kernel
theorem dX1_addRider_18 : decode cX1_addRider 18 = .ok (.iload_n 1, 1) := by decide +kernel
theorem dX1_addRider_19 : decode cX1_addRider 19 = .ok (.iload_n 2, 1) := by decide +kernel
theorem dX1_addRider_20 : decode cX1_addRider 20 = .ok (.iload_n 3, 1) := by decide +kernel
theorem dX1_addRider_21 : decode cX1_addRider 21 = .ok (.iload 4, 2) := by decide +kernel
theorem dX1_addRider_23 : decode cX1_addRider 23 = .ok (.invokevirtual 81, 3) := by decide +kernel
theorem dX1_addRider_26 : decode cX1_addRider 26 = .ok (.aload_n 0, 1) := by decide +kernel
theorem dX1_addRider_27 : decode cX1_addRider 27 = .ok (.dup, 1) := by decide +kernel
theorem dX1_addRider_28 : decode cX1_addRider 28 = .ok (.getfield 18, 3) := by decide +kernel
theorem dX1_addRider_31 : decode cX1_addRider 31 = .ok (.iconst 1, 1) := by decide +kernel
theorem dX1_addRider_32 : decode cX1_addRider 32 = .ok (.iadd, 1) := by decide +kernel
theorem dX1_addRider_33 : decode cX1_addRider 33 = .ok (.putfield 18, 3) := by decide +kernel
theorem dX1_addRider_36 : decode cX1_addRider 36 = .ok (.return_, 1) := by decide +kernel
set_option maxRecDepth 20000 in
set_option maxHeartbeats 4000000 in
theorem vX1_addRider_0 {l : Launch} {x : CX} {a0 : Nat} {x1 : Int32} {x2 : Int32} {x3 : Int32} {x4 : Int32} {h : PH} {rc rs n0 : Nat} {Q : Option Value → PH → Prop} {X : String → PH → Prop}
    (K : ((hK h a0).1 = 1) ∧ ((24 ≤ (hI h a0 2) → Q none h) ∧ (¬ 24 ≤ (hI h a0 2) → ∃ b3, (hR h a0 14 = some b3) ∧ ((hK h b3).1 = 106) ∧ (vp_in (hI h a0 2) (hK h b3).2) ∧ ∃ b7, (hR h b3 (hI h a0 2).toNatClampNeg = some b7) ∧ ((hK h b7).1 = 6) ∧ ∃ (q9 : PH → Prop), CV l x mX6_tell 0 0 0 [.ref b7, .int x1, .int x2, .int x3, .int x4] h q9 ∧ ∀ (h12 : PH), q9 h12 → ((hK h12 a0).1 = 1) ∧ Q none (sI h12 a0 2 ((hI h12 a0 2) + 1))))) :
    Gm l x mX1_addRider 1 0 [(0, .ref a0), (1, .int x1), (2, .int x2), (3, .int x3), (4, .int x4)] [] h rc rs n0 Q X := by
  refine g_aload_n dX1_addRider_0 rfl 0 rfl ?_
  obtain ⟨e1, K⟩ := K
  refine g_get (c := 1) (k := 2) (v := .int (hI h a0 2)) dX1_addRider_1 fc_1 (by decide) (by decide) bw_192 rfl e1 ?_
  refine g_bipush (v := 24) dX1_addRider_4 (by decide) ?_
  refine g_icmp_ge (tgt := 36) dX1_addRider_6 (by decide) (fun c2 => ?_) (fun c2 => ?_)
  · replace K := K.1 c2
    exact g_vret dX1_addRider_36 rfl K
  · replace K := K.2 c2
    refine g_aload_n dX1_addRider_9 rfl 0 rfl ?_
    obtain ⟨b3, e4, K⟩ := K
    refine g_get (c := 1) (k := 14) (v := .ref b3) dX1_addRider_10 fc_1 (by decide) (by decide) bw_226 (congrArg pr e4) e1 ?_
    refine g_aload_n dX1_addRider_13 rfl 0 rfl ?_
    refine g_get (c := 1) (k := 2) (v := .int (hI h a0 2)) dX1_addRider_14 fc_1 (by decide) (by decide) bw_192 rfl e1 ?_
    obtain ⟨e5, e6, b7, e8, K⟩ := K
    refine g_aald (t := 6) (v := .ref b7) dX1_addRider_17 (Or.inr (Or.inl rfl)) e5 e6 (congrArg pr e8) ?_
    refine g_iload_n dX1_addRider_18 rfl 1 rfl ?_
    refine g_iload_n dX1_addRider_19 rfl 2 rfl ?_
    refine g_iload_n dX1_addRider_20 rfl 3 rfl ?_
    refine g_iload dX1_addRider_21 4 rfl ?_
    obtain ⟨e11, K⟩ := K
    obtain ⟨q9, C10, K⟩ := K
    refine g_callV (M' := mX6_tell) (b := b7) (As := [.int x1, .int x2, .int x3, .int x4]) (rest := []) (rc' := rc) (rs' := rs) dX1_addRider_23 bw_624 bw_625 bw_626 bw_5 bw_627 ⟨by decide +kernel, by decide +kernel, show (parseMethodDescriptor mX6_tell.1.desc).map (fun d => d.parameters.length) = some 4 by decide +kernel⟩ (by decide) (by decide) (Nat.le_of_ble_eq_true rfl) fc_6 (by decide) rfl e11 C10 (Nat.le_of_eq (Nat.add_zero _)) (Nat.le_of_eq (Nat.add_zero _)) (fun _ _ h => h) ?_
    rintro _ h12 ⟨rfl, K1⟩ -
    replace K := K h12 K1
    show Gm l x mX1_addRider 1 26 [(0, .ref a0), (1, .int x1), (2, .int x2), (3, .int x3), (4, .int x4)] [] h12 rc rs n0 Q X
    refine g_aload_n dX1_addRider_26 rfl 0 rfl ?_
    refine g_dup dX1_addRider_27 rfl ?_
    obtain ⟨e13, K⟩ := K
    refine g_get (c := 1) (k := 2) (v := .int (hI h12 a0 2)) dX1_addRider_28 fc_1 (by decide) (by decide) bw_192 rfl e13 ?_
    refine g_iconst (v := 1) dX1_addRider_31 (by decide) ?_
    refine g_iadd dX1_addRider_32 ?_
    refine g_puti (c := 1) (k := 2) dX1_addRider_33 fc_1 (by decide) (by decide) bw_192 (Or.inl rfl) rfl e13 ?_
    exact g_vret dX1_addRider_36 rfl K
theorem dX1_arrive_0 : decode cX1_arrive 0 = .ok (.aload_n 1, 1) := by decide +kernel
theorem dX1_arrive_1 : decode cX1_arrive 1 = .ok (.aload_n 1, 1) := by decide +kernel
theorem dX1_arrive_2 : decode cX1_arrive 2 = .ok (.getfield 90, 3) := by decide +kernel
theorem dX1_arrive_5 : decode cX1_arrive 5 = .ok (.invokevirtual 93, 3) := by decide +kernel
theorem dX1_arrive_8 : decode cX1_arrive 8 = .ok (.aload_n 0, 1) := by decide +kernel
theorem dX1_arrive_9 : decode cX1_arrive 9 = .ok (.aload_n 0, 1) := by decide +kernel
theorem dX1_arrive_10 : decode cX1_arrive 10 = .ok (.getfield 43, 3) := by decide +kernel
theorem dX1_arrive_13 : decode cX1_arrive 13 = .ok (.iconst 1, 1) := by decide +kernel
theorem dX1_arrive_14 : decode cX1_arrive 14 = .ok (.ishl, 1) := by decide +kernel
theorem dX1_arrive_15 : decode cX1_arrive 15 = .ok (.aload_n 1, 1) := by decide +kernel
theorem dX1_arrive_16 : decode cX1_arrive 16 = .ok (.getfield 90, 3) := by decide +kernel
theorem dX1_arrive_19 : decode cX1_arrive 19 = .ok (.ifCond .ne 7, 3) := by decide +kernel
theorem dX1_arrive_22 : decode cX1_arrive 22 = .ok (.iconst 1, 1) := by decide +kernel
theorem dX1_arrive_23 : decode cX1_arrive 23 = .ok (.goto 4, 3) := by decide +kernel
theorem dX1_arrive_26 : decode cX1_arrive 26 = .ok (.iconst 0, 1) := by decide +kernel
theorem dX1_arrive_27 : decode cX1_arrive 27 = .ok (.ior, 1) := by decide +kernel
theorem dX1_arrive_28 : decode cX1_arrive 28 = .ok (.sipush 255, 3) := by decide +kernel
theorem dX1_arrive_31 : decode cX1_arrive 31 = .ok (.iand, 1) := by decide +kernel
theorem dX1_arrive_32 : decode cX1_arrive 32 = .ok (.putfield 43, 3) := by decide +kernel
theorem dX1_arrive_35 : decode cX1_arrive 35 = .ok (.aload_n 0, 1) := by decide +kernel
theorem dX1_arrive_36 : decode cX1_arrive 36 = .ok (.aload_n 0, 1) := by decide +kernel
theorem dX1_arrive_37 : decode cX1_arrive 37 = .ok (.getfield 30, 3) := by decide +kernel
theorem dX1_arrive_40 : decode cX1_arrive 40 = .ok (.ifCond .le 21, 3) := by decide +kernel
theorem dX1_arrive_43 : decode cX1_arrive 43 = .ok (.aload_n 0, 1) := by decide +kernel
theorem dX1_arrive_44 : decode cX1_arrive 44 = .ok (.getfield 43, 3) := by decide +kernel
theorem dX1_arrive_47 : decode cX1_arrive 47 = .ok (.invokestatic 97, 3) := by decide +kernel
theorem dX1_arrive_50 : decode cX1_arrive 50 = .ok (.aload_n 0, 1) := by decide +kernel
theorem dX1_arrive_51 : decode cX1_arrive 51 = .ok (.getfield 30, 3) := by decide +kernel
theorem dX1_arrive_54 : decode cX1_arrive 54 = .ok (.if_icmp .lt 7, 3) := by decide +kernel
theorem dX1_arrive_57 : decode cX1_arrive 57 = .ok (.iconst 1, 1) := by decide +kernel
theorem dX1_arrive_58 : decode cX1_arrive 58 = .ok (.goto 4, 3) := by decide +kernel
theorem dX1_arrive_61 : decode cX1_arrive 61 = .ok (.iconst 0, 1) := by decide +kernel
theorem dX1_arrive_62 : decode cX1_arrive 62 = .ok (.putfield 46, 3) := by decide +kernel
theorem dX1_arrive_65 : decode cX1_arrive 65 = .ok (.return_, 1) := by decide +kernel
set_option maxRecDepth 20000 in
set_option maxHeartbeats 4000000 in
theorem vX1_arrive_0 {l : Launch} {x : CX} {a0 : Nat} {a1 : Nat} {h : PH} {rc rs n0 : Nat} {Q : Option Value → PH → Prop} {X : String → PH → Prop}
    (K : ((hK h a1).1 = 6) ∧ ∃ (q2 : PH → Prop), CV l x mX6_waitAt 0 0 0 [.ref a1, .int (hI h a1 2)] h q2 ∧ ∀ (h4 : PH), q2 h4 → ((hK h4 a0).1 = 1) ∧ ((hK h4 a1).1 = 6) ∧ (((hI h4 a0 6) ≤ 0 → Q none (sI (sI h4 a0 10 ((((hI h4 a0 10) <<< ((1 : Int32) &&& 31)) ||| (if (hI h4 a1 2) = 0 then 1 else 0 : Int32)) &&& 255)) a0 11 0)) ∧ (¬ (hI h4 a0 6) ≤ 0 → ∃ (q9 : Int32 → PH → Prop), CI l x mJ6_bitCount_0f7a4 0 0 0 [.int (hI (sI h4 a0 10 ((((hI h4 a0 10) <<< ((1 : Int32) &&& 31)) ||| (if (hI h4 a1 2) = 0 then 1 else 0 : Int32)) &&& 255)) a0 10)] (sI h4 a0 10 ((((hI h4 a0 10) <<< ((1 : Int32) &&& 31)) ||| (if (hI h4 a1 2) = 0 then 1 else 0 : Int32)) &&& 255)) q9 ∧ ∀ (r12 : Int32) (h11 : PH), q9 r12 h11 → ((hK h11 a0).1 = 1) ∧ (((if r12 < (hI h11 a0 6) then 0 else 1 : Int32) : Int32) = 0 ∨ ((if r12 < (hI h11 a0 6) then 0 else 1 : Int32) : Int32) = 1) ∧ Q none (sI h11 a0 11 (if r12 < (hI h11 a0 6) then 0 else 1 : Int32))))) :
    Gm l x mX1_arrive 1 0 [(0, .ref a0), (1, .ref a1)] [] h rc rs n0 Q X := by
  refine g_aload_n dX1_arrive_0 rfl 1 rfl ?_
  refine g_aload_n dX1_arrive_1 rfl 1 rfl ?_
  obtain ⟨e1, K⟩ := K
  refine g_get (c := 6) (k := 2) (v := .int (hI h a1 2)) dX1_arrive_2 fc_6 (by decide) (by decide) bw_138 rfl e1 ?_
  obtain ⟨q2, C3, K⟩ := K
  refine g_callV (M' := mX6_waitAt) (b := a1) (As := [.int (hI h a1 2)]) (rest := []) (rc' := rc) (rs' := rs) dX1_arrive_5 bw_485 bw_486 bw_487 bw_5 bw_488 ⟨by decide +kernel, by decide +kernel, show (parseMethodDescriptor mX6_waitAt.1.desc).map (fun d => d.parameters.length) = some 1 by decide +kernel⟩ (by decide) (by decide) (Nat.le_of_ble_eq_true rfl) fc_6 (by decide) rfl e1 C3 (Nat.le_of_eq (Nat.add_zero _)) (Nat.le_of_eq (Nat.add_zero _)) (fun _ _ h => h) ?_
  rintro _ h4 ⟨rfl, K1⟩ -
  replace K := K h4 K1
  show Gm l x mX1_arrive 1 8 [(0, .ref a0), (1, .ref a1)] [] h4 rc rs n0 Q X
  refine g_aload_n dX1_arrive_8 rfl 0 rfl ?_
  refine g_aload_n dX1_arrive_9 rfl 0 rfl ?_
  obtain ⟨e5, K⟩ := K
  refine g_get (c := 1) (k := 10) (v := .int (hI h4 a0 10)) dX1_arrive_10 fc_1 (by decide) (by decide) bw_217 rfl e5 ?_
  refine g_iconst (v := 1) dX1_arrive_13 (by decide) ?_
  refine g_ishl dX1_arrive_14 ?_
  refine g_aload_n dX1_arrive_15 rfl 1 rfl ?_
  obtain ⟨e6, K⟩ := K
  refine g_get (c := 6) (k := 2) (v := .int (hI h4 a1 2)) dX1_arrive_16 fc_6 (by decide) (by decide) bw_138 rfl e6 ?_
  have KJ : Gm l x mX1_arrive 1 27 [(0, .ref a0), (1, .ref a1)] [.int (if (hI h4 a1 2) = 0 then 1 else 0 : Int32), .int ((hI h4 a0 10) <<< ((1 : Int32) &&& 31)), .ref a0] h4 rc rs n0 Q X := by
    refine g_ior dX1_arrive_27 ?_
    refine g_sipush (v := 255) dX1_arrive_28 (by decide) ?_
    refine g_iand dX1_arrive_31 ?_
    refine g_puti (c := 1) (k := 10) dX1_arrive_32 fc_1 (by decide) (by decide) bw_217 (Or.inl rfl) rfl e5 ?_
    refine g_aload_n dX1_arrive_35 rfl 0 rfl ?_
    refine g_aload_n dX1_arrive_36 rfl 0 rfl ?_
    refine g_get (c := 1) (k := 6) (v := .int (hI h4 a0 6)) dX1_arrive_37 fc_1 (by decide) (by decide) bw_209 (congrArg Value.int ((skI (by decide)).trans rfl)) (kkI e5) ?_
    refine g_if_le (tgt := 61) dX1_arrive_40 (by decide) (fun c8 => ?_) (fun c8 => ?_)
    · replace K := K.1 c8
      refine g_iconst (v := 0) dX1_arrive_61 (by decide) ?_
      refine g_putz (c := 1) (k := 11) dX1_arrive_62 fc_1 (by decide) (by decide) bw_218 (Or.inl rfl) rfl (by decide) (kkI e5) ?_
      exact g_vret dX1_arrive_65 rfl K
    · replace K := K.2 c8
      refine g_aload_n dX1_arrive_43 rfl 0 rfl ?_
      refine g_get (c := 1) (k := 10) (v := .int (hI (sI h4 a0 10 ((((hI h4 a0 10) <<< ((1 : Int32) &&& 31)) ||| (if (hI h4 a1 2) = 0 then 1 else 0 : Int32)) &&& 255)) a0 10)) dX1_arrive_44 fc_1 (by decide) (by decide) bw_217 rfl (kkI e5) ?_
      obtain ⟨q9, C10, K⟩ := K
      refine g_callS (M' := mJ6_bitCount_0f7a4) (As := [.int (hI (sI h4 a0 10 ((((hI h4 a0 10) <<< ((1 : Int32) &&& 31)) ||| (if (hI h4 a1 2) = 0 then 1 else 0 : Int32)) &&& 255)) a0 10)]) (rest := [.ref a0]) (rc' := rc) (rs' := rs) dX1_arrive_47 bw_489 bw_490 bw_21 bw_491 ⟨by decide +kernel, by decide +kernel, show (parseMethodDescriptor mJ6_bitCount_0f7a4.1.desc).map (fun d => d.parameters.length) = some 1 by decide +kernel⟩ (by decide) (by decide) (Nat.le_of_ble_eq_true rfl) C10 (Nat.le_of_eq (Nat.add_zero _)) (Nat.le_of_eq (Nat.add_zero _)) (fun _ _ h => h) ?_
      rintro _ h11 ⟨r12, rfl, K1⟩ -
      replace K := K r12 h11 K1
      show Gm l x mX1_arrive 1 50 [(0, .ref a0), (1, .ref a1)] [.int r12, .ref a0] h11 rc rs n0 Q X
      refine g_aload_n dX1_arrive_50 rfl 0 rfl ?_
      obtain ⟨e13, K⟩ := K
      refine g_get (c := 1) (k := 6) (v := .int (hI h11 a0 6)) dX1_arrive_51 fc_1 (by decide) (by decide) bw_209 rfl e13 ?_
      have KJ : Gm l x mX1_arrive 1 62 [(0, .ref a0), (1, .ref a1)] [.int (if r12 < (hI h11 a0 6) then 0 else 1 : Int32), .ref a0] h11 rc rs n0 Q X := by
        obtain ⟨e15, K⟩ := K
        refine g_putz (c := 1) (k := 11) dX1_arrive_62 fc_1 (by decide) (by decide) bw_218 (Or.inl rfl) rfl e15 e13 ?_
        exact g_vret dX1_arrive_65 rfl K
      refine g_icmp_lt (tgt := 61) dX1_arrive_54 (by decide) (fun c14 => ?_) (fun c14 => ?_)
      · refine g_iconst (v := 0) dX1_arrive_61 (by decide) ?_
        first | (simp only [if_pos c14] at KJ; exact KJ) | (simp only [if_pos c14, ite_true, ite_false, eq_self] at KJ; exact KJ) | (simp only [if_pos c14] at KJ ⊢; exact KJ) | exact KJ
      · refine g_iconst (v := 1) dX1_arrive_57 (by decide) ?_
        refine g_goto (tgt := 62) dX1_arrive_58 (by decide) ?_
        first | (simp only [if_neg c14] at KJ; exact KJ) | (simp only [if_neg c14, ite_true, ite_false, eq_self] at KJ; exact KJ) | (simp only [if_neg c14] at KJ ⊢; exact KJ) | exact KJ
  refine g_if_ne (tgt := 26) dX1_arrive_19 (by decide) (fun c7 => ?_) (fun c7 => ?_)
  · refine g_iconst (v := 0) dX1_arrive_26 (by decide) ?_
    first | (simp only [if_neg c7] at KJ; exact KJ) | (simp only [if_neg c7, ite_true, ite_false, eq_self] at KJ; exact KJ) | (simp only [if_neg c7] at KJ ⊢; exact KJ) | exact KJ
  · refine g_iconst (v := 1) dX1_arrive_22 (by decide) ?_
    refine g_goto (tgt := 27) dX1_arrive_23 (by decide) ?_
    first | (simp only [if_pos c7] at KJ; exact KJ) | (simp only [if_pos c7, ite_true, ite_false, eq_self] at KJ; exact KJ) | (simp only [if_pos c7] at KJ ⊢; exact KJ) | exact KJ
theorem dX1_callsWaiting_0 : decode cX1_callsWaiting 0 = .ok (.lconst 0, 1) := by decide +kernel
theorem dX1_callsWaiting_1 : decode cX1_callsWaiting 1 = .ok (.lstore_n 1, 1) := by decide +kernel
theorem dX1_callsWaiting_2 : decode cX1_callsWaiting 2 = .ok (.iconst 0, 1) := by decide +kernel
theorem dX1_callsWaiting_3 : decode cX1_callsWaiting 3 = .ok (.istore_n 3, 1) := by decide +kernel
theorem dX1_callsWaiting_4 : decode cX1_callsWaiting 4 = .ok (.iload_n 3, 1) := by decide +kernel
theorem dX1_callsWaiting_5 : decode cX1_callsWaiting 5 = .ok (.aload_n 0, 1) := by decide +kernel
theorem dX1_callsWaiting_6 : decode cX1_callsWaiting 6 = .ok (.getfield 18, 3) := by decide +kernel
theorem dX1_callsWaiting_9 : decode cX1_callsWaiting 9 = .ok (.if_icmp .ge 49, 3) := by decide +kernel
theorem dX1_callsWaiting_12 : decode cX1_callsWaiting 12 = .ok (.aload_n 0, 1) := by decide +kernel
theorem dX1_callsWaiting_13 : decode cX1_callsWaiting 13 = .ok (.getfield 60, 3) := by decide +kernel
theorem dX1_callsWaiting_16 : decode cX1_callsWaiting 16 = .ok (.iload_n 3, 1) := by decide +kernel
theorem dX1_callsWaiting_17 : decode cX1_callsWaiting 17 = .ok (.aaload, 1) := by decide +kernel
theorem dX1_callsWaiting_18 : decode cX1_callsWaiting 18 = .ok (.astore 4, 2) := by decide +kernel
theorem dX1_callsWaiting_20 : decode cX1_callsWaiting 20 = .ok (.aload 4, 2) := by decide +kernel
theorem dX1_callsWaiting_22 : decode cX1_callsWaiting 22 = .ok (.getfield 107, 3) := by decide +kernel
theorem dX1_callsWaiting_25 : decode cX1_callsWaiting 25 = .ok (.iconst 1, 1) := by decide +kernel
theorem dX1_callsWaiting_26 : decode cX1_callsWaiting 26 = .ok (.if_icmp .ne 26, 3) := by decide +kernel
theorem dX1_callsWaiting_29 : decode cX1_callsWaiting 29 = .ok (.lload_n 1, 1) := by decide +kernel
theorem dX1_callsWaiting_30 : decode cX1_callsWaiting 30 = .ok (.lconst 1, 1) := by decide +kernel
theorem dX1_callsWaiting_31 : decode cX1_callsWaiting 31 = .ok (.aload 4, 2) := by decide +kernel
theorem dX1_callsWaiting_33 : decode cX1_callsWaiting 33 = .ok (.getfield 131, 3) := by decide +kernel
theorem dX1_callsWaiting_36 : decode cX1_callsWaiting 36 = .ok (.aload 4, 2) := by decide +kernel
theorem dX1_callsWaiting_38 : decode cX1_callsWaiting 38 = .ok (.getfield 134, 3) := by decide +kernel
theorem dX1_callsWaiting_41 : decode cX1_callsWaiting 41 = .ok (.aload 4, 2) := by decide +kernel
theorem dX1_callsWaiting_43 : decode cX1_callsWaiting 43 = .ok (.getfield 137, 3) := by decide +kernel
theorem dX1_callsWaiting_46 : decode cX1_callsWaiting 46 = .ok (.invokestatic 140, 3) := by decide +kernel
theorem dX1_callsWaiting_49 : decode cX1_callsWaiting 49 = .ok (.lshl, 1) := by decide +kernel
theorem dX1_callsWaiting_50 : decode cX1_callsWaiting 50 = .ok (.lor, 1) := by decide +kernel
theorem dX1_callsWaiting_51 : decode cX1_callsWaiting 51 = .ok (.lstore_n 1, 1) := by decide +kernel
theorem dX1_callsWaiting_52 : decode cX1_callsWaiting 52 = .ok (.iinc 3 1, 3) := by decide +kernel
theorem dX1_callsWaiting_55 : decode cX1_callsWaiting 55 = .ok (.goto (-51), 3) := by decide +kernel
theorem dX1_callsWaiting_58 : decode cX1_callsWaiting 58 = .ok (.lload_n 1, 1) := by decide +kernel
theorem dX1_callsWaiting_59 : decode cX1_callsWaiting 59 = .ok (.lreturn, 1) := by decide +kernel
set_option maxRecDepth 20000 in
set_option maxHeartbeats 4000000 in
theorem vX1_callsWaiting_0 {l : Launch} {x : CX} {a0 : Nat} {h : PH} {rc rs n0 : Nat} {Q : Option Value → PH → Prop} {X : String → PH → Prop}
    (K : Gm l x mX1_callsWaiting 1 4 [(0, .ref a0), (1, .long 0), (3, .int 0)] [] h rc rs n0 Q X) :
    Gm l x mX1_callsWaiting 1 0 [(0, .ref a0)] [] h rc rs n0 Q X := by
  refine g_lconst (v := 0) dX1_callsWaiting_0 (by decide) ?_
  refine g_lstore_n (lv' := [(0, .ref a0), (1, .long 0)]) dX1_callsWaiting_1 rfl (by decide) rfl ?_
  refine g_iconst (v := 0) dX1_callsWaiting_2 (by decide) ?_
  refine g_istore_n (lv' := [(0, .ref a0), (1, .long 0), (3, .int 0)]) dX1_callsWaiting_3 rfl (by decide) rfl ?_
  exact K
set_option maxRecDepth 20000 in
set_option maxHeartbeats 4000000 in
theorem vX1_callsWaiting_4 {l : Launch} {x : CX} {a0 : Nat} {l1 : Int64} {x3 : Int32} {h : PH} {rc rs n0 : Nat} {Q : Option Value → PH → Prop} {X : String → PH → Prop}
    (K : ((hK h a0).1 = 1) ∧ (((hI h a0 2) ≤ x3 → Q (some (.long l1)) h) ∧ (¬ (hI h a0 2) ≤ x3 → ∃ b3, (hR h a0 14 = some b3) ∧ ((hK h b3).1 = 106) ∧ (vp_in x3 (hK h b3).2) ∧ ∃ b7, (hR h b3 x3.toNatClampNeg = some b7) ∧ ((hK h b7).1 = 6) ∧ ((¬ (hI h b7 4) = 1 → Gm l x mX1_callsWaiting 1 4 [(0, .ref a0), (1, .long l1), (3, .int (x3 + 1))] [] h rc rs n0 Q X) ∧ ((hI h b7 4) = 1 → (NestOk x RX1 140 yX7_callNumber "LiftBank") ∧ ∃ (q11 : Int32 → PH → Prop), CI l x mX7_callNumber 0 0 0 [.int (hI h b7 5), .int (hI h b7 6), .int (hI h b7 0)] h q11 ∧ ∀ (r14 : Int32) (h13 : PH), q11 r14 h13 → Gm l x mX1_callsWaiting 1 4 [(0, .ref a0), (1, .long (l1 ||| (lsh 1 r14))), (3, .int (x3 + 1))] [] h13 rc rs n0 Q X))))) :
    Gm l x mX1_callsWaiting 1 4 [(0, .ref a0), (1, .long l1), (3, .int x3)] [] h rc rs n0 Q X := by
  refine g_iload_n dX1_callsWaiting_4 rfl 2 rfl ?_
  refine g_aload_n dX1_callsWaiting_5 rfl 0 rfl ?_
  obtain ⟨e1, K⟩ := K
  refine g_get (c := 1) (k := 2) (v := .int (hI h a0 2)) dX1_callsWaiting_6 fc_1 (by decide) (by decide) bw_192 rfl e1 ?_
  refine g_icmp_ge (tgt := 58) dX1_callsWaiting_9 (by decide) (fun c2 => ?_) (fun c2 => ?_)
  · replace K := K.1 c2
    refine g_lload_n dX1_callsWaiting_58 rfl 1 rfl ?_
    exact g_lret dX1_callsWaiting_59 rfl K
  · replace K := K.2 c2
    refine g_aload_n dX1_callsWaiting_12 rfl 0 rfl ?_
    obtain ⟨b3, e4, K⟩ := K
    refine g_get (c := 1) (k := 14) (v := .ref b3) dX1_callsWaiting_13 fc_1 (by decide) (by decide) bw_226 (congrArg pr e4) e1 ?_
    refine g_iload_n dX1_callsWaiting_16 rfl 2 rfl ?_
    obtain ⟨e5, e6, b7, e8, K⟩ := K
    refine g_aald (t := 6) (v := .ref b7) dX1_callsWaiting_17 (Or.inr (Or.inl rfl)) e5 e6 (congrArg pr e8) ?_
    refine g_astore (lv' := [(0, .ref a0), (1, .long l1), (3, .int x3), (4, .ref b7)]) dX1_callsWaiting_18 (by decide) rfl ?_
    refine g_aload dX1_callsWaiting_20 3 rfl ?_
    obtain ⟨e9, K⟩ := K
    refine g_get (c := 6) (k := 4) (v := .int (hI h b7 4)) dX1_callsWaiting_22 fc_6 (by decide) (by decide) bw_146 rfl e9 ?_
    refine g_iconst (v := 1) dX1_callsWaiting_25 (by decide) ?_
    refine g_icmp_ne (tgt := 52) dX1_callsWaiting_26 (by decide) (fun c10 => ?_) (fun c10 => ?_)
    · replace K := K.1 c10
      refine g_iinc (v := (x3 + 1)) (lv' := [(0, .ref a0), (1, .long l1), (3, .int (x3 + 1)), (4, .ref b7)]) dX1_callsWaiting_52 2 rfl (by rfl) (by decide) rfl ?_
      refine g_goto (tgt := 4) dX1_callsWaiting_55 (by decide) ?_
      exact Gm.sub [0, 1, 2] rfl K
    · replace K := K.2 c10
      refine g_lload_n dX1_callsWaiting_29 rfl 1 rfl ?_
      refine g_lconst (v := 1) dX1_callsWaiting_30 (by decide) ?_
      refine g_aload dX1_callsWaiting_31 3 rfl ?_
      refine g_get (c := 6) (k := 5) (v := .int (hI h b7 5)) dX1_callsWaiting_33 fc_6 (by decide) (by decide) bw_150 rfl e9 ?_
      refine g_aload dX1_callsWaiting_36 3 rfl ?_
      refine g_get (c := 6) (k := 6) (v := .int (hI h b7 6)) dX1_callsWaiting_38 fc_6 (by decide) (by decide) bw_153 rfl e9 ?_
      refine g_aload dX1_callsWaiting_41 3 rfl ?_
      refine g_get (c := 6) (k := 0) (v := .int (hI h b7 0)) dX1_callsWaiting_43 fc_6 (by decide) (by decide) bw_131 rfl e9 ?_
      obtain ⟨z15, K⟩ := K
      obtain ⟨q11, C12, K⟩ := K
      refine g_callSN (M' := mX7_callNumber) (As := [.int (hI h b7 5), .int (hI h b7 6), .int (hI h b7 0)]) (rest := [.long 1, .long l1]) (rc' := rc) (rs' := rs) dX1_callsWaiting_46 z15 bw_531 bw_1 bw_532 ⟨by decide +kernel, by decide +kernel, show (parseMethodDescriptor mX7_callNumber.1.desc).map (fun d => d.parameters.length) = some 3 by decide +kernel⟩ (by decide) (by decide) (Nat.le_of_ble_eq_true rfl) C12 (Nat.le_of_eq (Nat.add_zero _)) (Nat.le_of_eq (Nat.add_zero _)) (fun _ _ h => h) ?_
      rintro _ h13 ⟨r14, rfl, K1⟩ -
      replace K := K r14 h13 K1
      show Gm l x mX1_callsWaiting 1 49 [(0, .ref a0), (1, .long l1), (3, .int x3), (4, .ref b7)] [.int r14, .long 1, .long l1] h13 rc rs n0 Q X
      refine g_lshl dX1_callsWaiting_49 ?_
      refine g_lor dX1_callsWaiting_50 ?_
      refine g_lstore_n (lv' := [(0, .ref a0), (1, .long (l1 ||| (lsh 1 r14))), (3, .int x3), (4, .ref b7)]) dX1_callsWaiting_51 rfl (by decide) rfl ?_
      refine g_iinc (v := (x3 + 1)) (lv' := [(0, .ref a0), (1, .long (l1 ||| (lsh 1 r14))), (3, .int (x3 + 1)), (4, .ref b7)]) dX1_callsWaiting_52 2 rfl (by rfl) (by decide) rfl ?_
      refine g_goto (tgt := 4) dX1_callsWaiting_55 (by decide) ?_
      exact Gm.sub [0, 1, 2] rfl K
theorem dX1_wantsCar_0 : decode cX1_wantsCar 0 = .ok (.aload_n 0, 1) := by decide +kernel
theorem dX1_wantsCar_1 : decode cX1_wantsCar 1 = .ok (.iload_n 1, 1) := by decide +kernel
theorem dX1_wantsCar_2 : decode cX1_wantsCar 2 = .ok (.invokevirtual 148, 3) := by decide +kernel
theorem dX1_wantsCar_5 : decode cX1_wantsCar 5 = .ok (.istore_n 2, 1) := by decide +kernel
theorem dX1_wantsCar_6 : decode cX1_wantsCar 6 = .ok (.iload_n 2, 1) := by decide +kernel
theorem dX1_wantsCar_7 : decode cX1_wantsCar 7 = .ok (.iconst (-1), 1) := by decide +kernel
theorem dX1_wantsCar_8 : decode cX1_wantsCar 8 = .ok (.if_icmp .ne 5, 3) := by decide +kernel
theorem dX1_wantsCar_11 : decode cX1_wantsCar 11 = .ok (.iconst 1, 1) := by decide +kernel
theorem dX1_wantsCar_12 : decode cX1_wantsCar 12 = .ok (.ireturn, 1) := by decide +kernel
theorem dX1_wantsCar_13 : decode cX1_wantsCar 13 = .ok (.aload_n 0, 1) := by decide +kernel
theorem dX1_wantsCar_14 : decode cX1_wantsCar 14 = .ok (.getfield 54, 3) := by decide +kernel
theorem dX1_wantsCar_17 : decode cX1_wantsCar 17 = .ok (.iload_n 2, 1) := by decide +kernel
theorem dX1_wantsCar_18 : decode cX1_wantsCar 18 = .ok (.aaload, 1) := by decide +kernel
theorem dX1_wantsCar_19 : decode cX1_wantsCar 19 = .ok (.astore_n 3, 1) := by decide +kernel
theorem dX1_wantsCar_20 : decode cX1_wantsCar 20 = .ok (.aload_n 3, 1) := by decide +kernel
theorem dX1_wantsCar_21 : decode cX1_wantsCar 21 = .ok (.getfield 151, 3) := by decide +kernel
theorem dX1_wantsCar_24 : decode cX1_wantsCar 24 = .ok (.iload_n 1, 1) := by decide +kernel
theorem dX1_wantsCar_25 : decode cX1_wantsCar 25 = .ok (.iconst 4, 1) := by decide +kernel
theorem dX1_wantsCar_26 : decode cX1_wantsCar 26 = .ok (.idiv, 1) := by decide +kernel
theorem dX1_wantsCar_27 : decode cX1_wantsCar 27 = .ok (.isub, 1) := by decide +kernel
theorem dX1_wantsCar_28 : decode cX1_wantsCar 28 = .ok (.invokestatic 154, 3) := by decide +kernel
theorem dX1_wantsCar_31 : decode cX1_wantsCar 31 = .ok (.aload_n 0, 1) := by decide +kernel
theorem dX1_wantsCar_32 : decode cX1_wantsCar 32 = .ok (.getfield 24, 3) := by decide +kernel
theorem dX1_wantsCar_35 : decode cX1_wantsCar 35 = .ok (.if_icmp .le 7, 3) := by decide +kernel
theorem dX1_wantsCar_38 : decode cX1_wantsCar 38 = .ok (.iconst 1, 1) := by decide +kernel
theorem dX1_wantsCar_39 : decode cX1_wantsCar 39 = .ok (.goto 4, 3) := by decide +kernel
theorem dX1_wantsCar_42 : decode cX1_wantsCar 42 = .ok (.iconst 0, 1) := by decide +kernel
theorem dX1_wantsCar_43 : decode cX1_wantsCar 43 = .ok (.istore 4, 2) := by decide +kernel
theorem dX1_wantsCar_45 : decode cX1_wantsCar 45 = .ok (.aload_n 0, 1) := by decide +kernel
theorem dX1_wantsCar_46 : decode cX1_wantsCar 46 = .ok (.getfield 24, 3) := by decide +kernel
theorem dX1_wantsCar_49 : decode cX1_wantsCar 49 = .ok (.ifCond .le 26, 3) := by decide +kernel
theorem dX1_wantsCar_52 : decode cX1_wantsCar 52 = .ok (.aload_n 0, 1) := by decide +kernel
theorem dX1_wantsCar_53 : decode cX1_wantsCar 53 = .ok (.getfield 27, 3) := by decide +kernel
theorem dX1_wantsCar_56 : decode cX1_wantsCar 56 = .ok (.ifCond .eq 19, 3) := by decide +kernel
theorem dX1_wantsCar_59 : decode cX1_wantsCar 59 = .ok (.aload_n 3, 1) := by decide +kernel
theorem dX1_wantsCar_60 : decode cX1_wantsCar 60 = .ok (.getfield 159, 3) := by decide +kernel
theorem dX1_wantsCar_63 : decode cX1_wantsCar 63 = .ok (.ifCond .ne 12, 3) := by decide +kernel
theorem dX1_wantsCar_66 : decode cX1_wantsCar 66 = .ok (.iload 4, 2) := by decide +kernel
theorem dX1_wantsCar_68 : decode cX1_wantsCar 68 = .ok (.ifCond .eq 7, 3) := by decide +kernel
theorem dX1_wantsCar_71 : decode cX1_wantsCar 71 = .ok (.iconst 1, 1) := by decide +kernel
theorem dX1_wantsCar_72 : decode cX1_wantsCar 72 = .ok (.goto 4, 3) := by decide +kernel
theorem dX1_wantsCar_75 : decode cX1_wantsCar 75 = .ok (.iconst 0, 1) := by decide +kernel
theorem dX1_wantsCar_76 : decode cX1_wantsCar 76 = .ok (.ireturn, 1) := by decide +kernel
set_option maxRecDepth 20000 in
set_option maxHeartbeats 4000000 in
theorem vX1_wantsCar_0 {l : Launch} {x : CX} {a0 : Nat} {x1 : Int32} {h : PH} {rc rs n0 : Nat} {Q : Option Value → PH → Prop} {X : String → PH → Prop}
    (K : ((hK h a0).1 = 1) ∧ ∃ (q1 : Int32 → PH → Prop), CI l x mX1_holderOf 0 0 0 [.ref a0, .int x1] h q1 ∧ ∀ (r5 : Int32) (h4 : PH), q1 r5 h4 → ((¬ r5 = (-1) → ((hK h4 a0).1 = 1) ∧ ∃ b8, (hR h4 a0 13 = some b8) ∧ ((hK h4 b8).1 = 105) ∧ (vp_in r5 (hK h4 b8).2) ∧ ∃ b12, (hR h4 b8 r5.toNatClampNeg = some b12) ∧ ((hK h4 b12).1 = 2) ∧ (((if 0 ≤ ((hI h4 b12 3) - (x1 / 4)) then ((hI h4 b12 3) - (x1 / 4)) else 0 - ((hI h4 b12 3) - (x1 / 4))) ≤ (hI h4 a0 4) → ((0 : Int32) = 0 ∨ (0 : Int32) = 1) ∧ Q (some (.int 0)) h4) ∧ (¬ (if 0 ≤ ((hI h4 b12 3) - (x1 / 4)) then ((hI h4 b12 3) - (x1 / 4)) else 0 - ((hI h4 b12 3) - (x1 / 4))) ≤ (hI h4 a0 4) → (((if (hI h4 a0 4) ≤ 0 then 0 else (if (hI h4 a0 5) = 0 then 0 else (if (hI h4 b12 5) = 0 then 1 else 0 : Int32) : Int32) : Int32) : Int32) = 0 ∨ ((if (hI h4 a0 4) ≤ 0 then 0 else (if (hI h4 a0 5) = 0 then 0 else (if (hI h4 b12 5) = 0 then 1 else 0 : Int32) : Int32) : Int32) : Int32) = 1) ∧ Q (some (.int (if (hI h4 a0 4) ≤ 0 then 0 else (if (hI h4 a0 5) = 0 then 0 else (if (hI h4 b12 5) = 0 then 1 else 0 : Int32) : Int32) : Int32))) h4))) ∧ (r5 = (-1) → ((1 : Int32) = 0 ∨ (1 : Int32) = 1) ∧ Q (some (.int 1)) h4))) :
    Gm l x mX1_wantsCar 1 0 [(0, .ref a0), (1, .int x1)] [] h rc rs n0 Q X := by
  refine g_aload_n dX1_wantsCar_0 rfl 0 rfl ?_
  refine g_iload_n dX1_wantsCar_1 rfl 1 rfl ?_
  obtain ⟨e3, K⟩ := K
  obtain ⟨q1, C2, K⟩ := K
  refine g_callV (M' := mX1_holderOf) (b := a0) (As := [.int x1]) (rest := []) (rc' := rc) (rs' := rs) dX1_wantsCar_2 bw_537 bw_538 bw_539 bw_3 bw_540 ⟨by decide +kernel, by decide +kernel, show (parseMethodDescriptor mX1_holderOf.1.desc).map (fun d => d.parameters.length) = some 1 by decide +kernel⟩ (by decide) (by decide) (Nat.le_of_ble_eq_true rfl) fc_1 (by decide) rfl e3 C2 (Nat.le_of_eq (Nat.add_zero _)) (Nat.le_of_eq (Nat.add_zero _)) (fun _ _ h => h) ?_
  rintro _ h4 ⟨r5, rfl, K1⟩ -
  replace K := K r5 h4 K1
  show Gm l x mX1_wantsCar 1 5 [(0, .ref a0), (1, .int x1)] [.int r5] h4 rc rs n0 Q X
  refine g_istore_n (lv' := [(0, .ref a0), (1, .int x1), (2, .int r5)]) dX1_wantsCar_5 rfl (by decide) rfl ?_
  refine g_iload_n dX1_wantsCar_6 rfl 2 rfl ?_
  refine g_iconst (v := (-1)) dX1_wantsCar_7 (by decide) ?_
  refine g_icmp_ne (tgt := 13) dX1_wantsCar_8 (by decide) (fun c6 => ?_) (fun c6 => ?_)
  · replace K := K.1 c6
    refine g_aload_n dX1_wantsCar_13 rfl 0 rfl ?_
    obtain ⟨e7, b8, e9, K⟩ := K
    refine g_get (c := 1) (k := 13) (v := .ref b8) dX1_wantsCar_14 fc_1 (by decide) (by decide) bw_223 (congrArg pr e9) e7 ?_
    refine g_iload_n dX1_wantsCar_17 rfl 2 rfl ?_
    obtain ⟨e10, e11, b12, e13, K⟩ := K
    refine g_aald (t := 5) (v := .ref b12) dX1_wantsCar_18 (Or.inl rfl) e10 e11 (congrArg pr e13) ?_
    refine g_astore_n (lv' := [(0, .ref a0), (1, .int x1), (2, .int r5), (3, .ref b12)]) dX1_wantsCar_19 rfl (by decide) rfl ?_
    refine g_aload_n dX1_wantsCar_20 rfl 3 rfl ?_
    obtain ⟨e14, K⟩ := K
    refine g_get (c := 2) (k := 3) (v := .int (hI h4 b12 3)) dX1_wantsCar_21 fc_2 (by decide) (by decide) bw_65 rfl e14 ?_
    refine g_iload_n dX1_wantsCar_24 rfl 1 rfl ?_
    refine g_iconst (v := 4) dX1_wantsCar_25 (by decide) ?_
    refine g_idiv dX1_wantsCar_26 (by decide) ?_
    refine g_isub dX1_wantsCar_27 ?_
    refine g_abs dX1_wantsCar_28 bw_541 bw_542 bw_14 bw_543 (by decide) (Nat.le_of_ble_eq_true rfl) ?_
    refine g_aload_n dX1_wantsCar_31 rfl 0 rfl ?_
    refine g_get (c := 1) (k := 4) (v := .int (hI h4 a0 4)) dX1_wantsCar_32 fc_1 (by decide) (by decide) bw_201 rfl e7 ?_
    refine g_icmp_le (tgt := 42) dX1_wantsCar_35 (by decide) (fun c15 => ?_) (fun c15 => ?_)
    · replace K := K.1 c15
      refine g_iconst (v := 0) dX1_wantsCar_42 (by decide) ?_
      refine g_istore (lv' := [(0, .ref a0), (1, .int x1), (2, .int r5), (3, .ref b12), (4, .int 0)]) dX1_wantsCar_43 (by decide) rfl ?_
      refine g_aload_n dX1_wantsCar_45 rfl 0 rfl ?_
      refine g_get (c := 1) (k := 4) (v := .int (hI h4 a0 4)) dX1_wantsCar_46 fc_1 (by decide) (by decide) bw_201 rfl e7 ?_
      have KJ : Gm l x mX1_wantsCar 1 76 [(0, .ref a0), (1, .int x1), (2, .int r5), (3, .ref b12), (4, .int 0)] [.int 0] h4 rc rs n0 Q X := by
        exact g_zret dX1_wantsCar_76 rfl K.1 K.2
      refine g_if_le (tgt := 75) dX1_wantsCar_49 (by decide) (fun c16 => ?_) (fun c16 => ?_)
      · refine g_iconst (v := 0) dX1_wantsCar_75 (by decide) ?_
        first | (simp only [if_pos c16] at KJ; exact KJ) | (simp only [if_pos c16, ite_true, ite_false, eq_self] at KJ; exact KJ) | (simp only [if_pos c16] at KJ ⊢; exact KJ) | exact KJ
      · refine g_aload_n dX1_wantsCar_52 rfl 0 rfl ?_
        refine g_get (c := 1) (k := 5) (v := .int (hI h4 a0 5)) dX1_wantsCar_53 fc_1 (by decide) (by decide) bw_205 rfl e7 ?_
        refine g_if_eq (tgt := 75) dX1_wantsCar_56 (by decide) (fun c17 => ?_) (fun c17 => ?_)
        · refine g_iconst (v := 0) dX1_wantsCar_75 (by decide) ?_
          first | (simp only [if_neg c16, if_pos c17] at KJ; exact KJ) | (simp only [if_neg c16, if_pos c17, ite_true, ite_false, eq_self] at KJ; exact KJ) | (simp only [if_neg c16, if_pos c17] at KJ ⊢; exact KJ) | exact KJ
        · refine g_aload_n dX1_wantsCar_59 rfl 3 rfl ?_
          refine g_get (c := 2) (k := 5) (v := .int (hI h4 b12 5)) dX1_wantsCar_60 fc_2 (by decide) (by decide) bw_71 rfl e14 ?_
          refine g_if_ne (tgt := 75) dX1_wantsCar_63 (by decide) (fun c18 => ?_) (fun c18 => ?_)
          · refine g_iconst (v := 0) dX1_wantsCar_75 (by decide) ?_
            first | (simp only [if_neg c16, if_neg c17, if_neg c18] at KJ; exact KJ) | (simp only [if_neg c16, if_neg c17, if_neg c18, ite_true, ite_false, eq_self] at KJ; exact KJ) | (simp only [if_neg c16, if_neg c17, if_neg c18] at KJ ⊢; exact KJ) | exact KJ
          · refine g_iload dX1_wantsCar_66 4 rfl ?_
            refine g_if_eq (tgt := 75) dX1_wantsCar_68 (by decide) (fun c19 => ?_) (fun c19 => ?_)
            · refine g_iconst (v := 0) dX1_wantsCar_75 (by decide) ?_
              first | (simp only [if_neg c16, if_neg c17, if_pos c18] at KJ; exact KJ) | (simp only [if_neg c16, if_neg c17, if_pos c18, ite_true, ite_false, eq_self] at KJ; exact KJ) | (simp only [if_neg c16, if_neg c17, if_pos c18] at KJ ⊢; exact KJ) | exact KJ
            · exact absurd c19 (by decide)
    · replace K := K.2 c15
      refine g_iconst (v := 1) dX1_wantsCar_38 (by decide) ?_
      refine g_goto (tgt := 43) dX1_wantsCar_39 (by decide) ?_
      refine g_istore (lv' := [(0, .ref a0), (1, .int x1), (2, .int r5), (3, .ref b12), (4, .int 1)]) dX1_wantsCar_43 (by decide) rfl ?_
      refine g_aload_n dX1_wantsCar_45 rfl 0 rfl ?_
      refine g_get (c := 1) (k := 4) (v := .int (hI h4 a0 4)) dX1_wantsCar_46 fc_1 (by decide) (by decide) bw_201 rfl e7 ?_
      have KJ : Gm l x mX1_wantsCar 1 76 [(0, .ref a0), (1, .int x1), (2, .int r5), (3, .ref b12), (4, .int 1)] [.int (if (hI h4 a0 4) ≤ 0 then 0 else (if (hI h4 a0 5) = 0 then 0 else (if (hI h4 b12 5) = 0 then 1 else 0 : Int32) : Int32) : Int32)] h4 rc rs n0 Q X := by
        exact g_zret dX1_wantsCar_76 rfl K.1 K.2
      refine g_if_le (tgt := 75) dX1_wantsCar_49 (by decide) (fun c20 => ?_) (fun c20 => ?_)
      · refine g_iconst (v := 0) dX1_wantsCar_75 (by decide) ?_
        first | (simp only [if_pos c20] at KJ; exact KJ) | (simp only [if_pos c20, ite_true, ite_false, eq_self] at KJ; exact KJ) | (simp only [if_pos c20] at KJ ⊢; exact KJ) | exact KJ
      · refine g_aload_n dX1_wantsCar_52 rfl 0 rfl ?_
        refine g_get (c := 1) (k := 5) (v := .int (hI h4 a0 5)) dX1_wantsCar_53 fc_1 (by decide) (by decide) bw_205 rfl e7 ?_
        refine g_if_eq (tgt := 75) dX1_wantsCar_56 (by decide) (fun c21 => ?_) (fun c21 => ?_)
        · refine g_iconst (v := 0) dX1_wantsCar_75 (by decide) ?_
          first | (simp only [if_neg c20, if_pos c21] at KJ; exact KJ) | (simp only [if_neg c20, if_pos c21, ite_true, ite_false, eq_self] at KJ; exact KJ) | (simp only [if_neg c20, if_pos c21] at KJ ⊢; exact KJ) | exact KJ
        · refine g_aload_n dX1_wantsCar_59 rfl 3 rfl ?_
          refine g_get (c := 2) (k := 5) (v := .int (hI h4 b12 5)) dX1_wantsCar_60 fc_2 (by decide) (by decide) bw_71 rfl e14 ?_
          refine g_if_ne (tgt := 75) dX1_wantsCar_63 (by decide) (fun c22 => ?_) (fun c22 => ?_)
          · refine g_iconst (v := 0) dX1_wantsCar_75 (by decide) ?_
            first | (simp only [if_neg c20, if_neg c21, if_neg c22] at KJ; exact KJ) | (simp only [if_neg c20, if_neg c21, if_neg c22, ite_true, ite_false, eq_self] at KJ; exact KJ) | (simp only [if_neg c20, if_neg c21, if_neg c22] at KJ ⊢; exact KJ) | exact KJ
          · refine g_iload dX1_wantsCar_66 4 rfl ?_
            refine g_if_eq (tgt := 75) dX1_wantsCar_68 (by decide) (fun c23 => ?_) (fun c23 => ?_)
            · exact absurd c23 (by decide)
            · refine g_iconst (v := 1) dX1_wantsCar_71 (by decide) ?_
              refine g_goto (tgt := 76) dX1_wantsCar_72 (by decide) ?_
              first | (simp only [if_neg c20, if_neg c21, if_pos c22] at KJ; exact KJ) | (simp only [if_neg c20, if_neg c21, if_pos c22, ite_true, ite_false, eq_self] at KJ; exact KJ) | (simp only [if_neg c20, if_neg c21, if_pos c22] at KJ ⊢; exact KJ) | exact KJ
  · replace K := K.2 c6
    refine g_iconst (v := 1) dX1_wantsCar_11 (by decide) ?_
    exact g_zret dX1_wantsCar_12 rfl K.1 K.2
