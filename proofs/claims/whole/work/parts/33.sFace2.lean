/-! STEPS, printed by program: Face2 -/
theorem dX7_allThatFit_0 : decode cX7_allThatFit 0 = .ok (.lconst 0, 1) := by decide +kernel
theorem dX7_allThatFit_1 : decode cX7_allThatFit 1 = .ok (.lstore_n 1, 1) := by decide +kernel
theorem dX7_allThatFit_2 : decode cX7_allThatFit 2 = .ok (.iconst 0, 1) := by decide +kernel
theorem dX7_allThatFit_3 : decode cX7_allThatFit 3 = .ok (.istore_n 3, 1) := by decide +kernel
theorem dX7_allThatFit_4 : decode cX7_allThatFit 4 = .ok (.iload_n 3, 1) := by decide +kernel
theorem dX7_allThatFit_5 : decode cX7_allThatFit 5 = .ok (.iconst 3, 1) := by decide +kernel
theorem dX7_allThatFit_6 : decode cX7_allThatFit 6 = .ok (.if_icmp .ge 117, 3) := by decide +kernel
theorem dX7_allThatFit_9 : decode cX7_allThatFit 9 = .ok (.iconst 0, 1) := by decide +kernel
theorem dX7_allThatFit_10 : decode cX7_allThatFit 10 = .ok (.istore 4, 2) := by decide +kernel
theorem dX7_allThatFit_12 : decode cX7_allThatFit 12 = .ok (.iload 4, 2) := by decide +kernel
theorem dX7_allThatFit_14 : decode cX7_allThatFit 14 = .ok (.bipush 12, 2) := by decide +kernel
theorem dX7_allThatFit_16 : decode cX7_allThatFit 16 = .ok (.if_icmp .ge 101, 3) := by decide +kernel
theorem dX7_allThatFit_19 : decode cX7_allThatFit 19 = .ok (.aload_n 0, 1) := by decide +kernel
theorem dX7_allThatFit_20 : decode cX7_allThatFit 20 = .ok (.getfield 30, 3) := by decide +kernel
theorem dX7_allThatFit_23 : decode cX7_allThatFit 23 = .ok (.iload_n 3, 1) := by decide +kernel
theorem dX7_allThatFit_24 : decode cX7_allThatFit 24 = .ok (.iload 4, 2) := by decide +kernel
theorem dX7_allThatFit_26 : decode cX7_allThatFit 26 = .ok (.invokevirtual 328, 3) := by decide +kernel
theorem dX7_allThatFit_29 : decode cX7_allThatFit 29 = .ok (.istore 5, 2) := by decide +kernel
theorem dX7_allThatFit_31 : decode cX7_allThatFit 31 = .ok (.iconst 1, 1) := by decide +kernel
theorem dX7_allThatFit_32 : decode cX7_allThatFit 32 = .ok (.istore 6, 2) := by decide +kernel
theorem dX7_allThatFit_34 : decode cX7_allThatFit 34 = .ok (.iconst 0, 1) := by decide +kernel
theorem dX7_allThatFit_35 : decode cX7_allThatFit 35 = .ok (.istore 7, 2) := by decide +kernel
theorem dX7_allThatFit_37 : decode cX7_allThatFit 37 = .ok (.iload 7, 2) := by decide +kernel
theorem dX7_allThatFit_39 : decode cX7_allThatFit 39 = .ok (.aload_n 0, 1) := by decide +kernel
theorem dX7_allThatFit_40 : decode cX7_allThatFit 40 = .ok (.getfield 37, 3) := by decide +kernel
theorem dX7_allThatFit_43 : decode cX7_allThatFit 43 = .ok (.getfield 159, 3) := by decide +kernel
theorem dX7_allThatFit_46 : decode cX7_allThatFit 46 = .ok (.if_icmp .ge 53, 3) := by decide +kernel
theorem dX7_allThatFit_49 : decode cX7_allThatFit 49 = .ok (.iload 6, 2) := by decide +kernel
theorem dX7_allThatFit_51 : decode cX7_allThatFit 51 = .ok (.ifCond .eq 39, 3) := by decide +kernel
theorem dX7_allThatFit_54 : decode cX7_allThatFit 54 = .ok (.aload_n 0, 1) := by decide +kernel
theorem dX7_allThatFit_55 : decode cX7_allThatFit 55 = .ok (.getfield 30, 3) := by decide +kernel
theorem dX7_allThatFit_58 : decode cX7_allThatFit 58 = .ok (.iload 5, 2) := by decide +kernel
theorem dX7_allThatFit_60 : decode cX7_allThatFit 60 = .ok (.aload_n 0, 1) := by decide +kernel
theorem dX7_allThatFit_61 : decode cX7_allThatFit 61 = .ok (.getfield 37, 3) := by decide +kernel
theorem dX7_allThatFit_64 : decode cX7_allThatFit 64 = .ok (.getfield 364, 3) := by decide +kernel
theorem dX7_allThatFit_67 : decode cX7_allThatFit 67 = .ok (.iload 7, 2) := by decide +kernel
theorem dX7_allThatFit_69 : decode cX7_allThatFit 69 = .ok (.iaload, 1) := by decide +kernel
theorem dX7_allThatFit_70 : decode cX7_allThatFit 70 = .ok (.invokevirtual 353, 3) := by decide +kernel
theorem dX7_allThatFit_73 : decode cX7_allThatFit 73 = .ok (.aload_n 0, 1) := by decide +kernel
theorem dX7_allThatFit_74 : decode cX7_allThatFit 74 = .ok (.getfield 37, 3) := by decide +kernel
theorem dX7_allThatFit_77 : decode cX7_allThatFit 77 = .ok (.getfield 367, 3) := by decide +kernel
theorem dX7_allThatFit_80 : decode cX7_allThatFit 80 = .ok (.iload 7, 2) := by decide +kernel
theorem dX7_allThatFit_82 : decode cX7_allThatFit 82 = .ok (.iaload, 1) := by decide +kernel
theorem dX7_allThatFit_83 : decode cX7_allThatFit 83 = .ok (.if_icmp .ne 7, 3) := by decide +kernel
theorem dX7_allThatFit_86 : decode cX7_allThatFit 86 = .ok (.iconst 1, 1) := by decide +kernel
theorem dX7_allThatFit_87 : decode cX7_allThatFit 87 = .ok (.goto 4, 3) := by decide +kernel
theorem dX7_allThatFit_90 : decode cX7_allThatFit 90 = .ok (.iconst 0, 1) := by decide +kernel
theorem dX7_allThatFit_91 : decode cX7_allThatFit 91 = .ok (.istore 6, 2) := by decide +kernel
theorem dX7_allThatFit_93 : decode cX7_allThatFit 93 = .ok (.iinc 7 1, 3) := by decide +kernel
theorem dX7_allThatFit_96 : decode cX7_allThatFit 96 = .ok (.goto (-59), 3) := by decide +kernel
theorem dX7_allThatFit_99 : decode cX7_allThatFit 99 = .ok (.iload 6, 2) := by decide +kernel
theorem dX7_allThatFit_101 : decode cX7_allThatFit 101 = .ok (.ifCond .eq 10, 3) := by decide +kernel
theorem dX7_allThatFit_104 : decode cX7_allThatFit 104 = .ok (.lload_n 1, 1) := by decide +kernel
theorem dX7_allThatFit_105 : decode cX7_allThatFit 105 = .ok (.lconst 1, 1) := by decide +kernel
theorem dX7_allThatFit_106 : decode cX7_allThatFit 106 = .ok (.iload 5, 2) := by decide +kernel
theorem dX7_allThatFit_108 : decode cX7_allThatFit 108 = .ok (.lshl, 1) := by decide +kernel
theorem dX7_allThatFit_109 : decode cX7_allThatFit 109 = .ok (.lor, 1) := by decide +kernel
theorem dX7_allThatFit_110 : decode cX7_allThatFit 110 = .ok (.lstore_n 1, 1) := by decide +kernel
theorem dX7_allThatFit_111 : decode cX7_allThatFit 111 = .ok (.iinc 4 1, 3) := by decide +kernel
theorem dX7_allThatFit_114 : decode cX7_allThatFit 114 = .ok (.goto (-102), 3) := by decide +kernel
theorem dX7_allThatFit_117 : decode cX7_allThatFit 117 = .ok (.iinc 3 1, 3) := by decide +kernel
theorem dX7_allThatFit_120 : decode cX7_allThatFit 120 = .ok (.goto (-116), 3) := by decide +kernel
theorem dX7_allThatFit_123 : decode cX7_allThatFit 123 = .ok (.lload_n 1, 1) := by decide +kernel
theorem dX7_allThatFit_124 : decode cX7_allThatFit 124 = .ok (.lreturn, 1) := by decide +kernel
set_option maxRecDepth 20000 in
set_option maxHeartbeats 4000000 in
theorem vX7_allThatFit_0 {l : Launch} {x : CX} {a0 : Nat} {h : PH} {rc rs n0 : Nat} {Q : Option Value → PH → Prop} {X : String → PH → Prop}
    (K : Gm l x mX7_allThatFit 6 4 [(0, .ref a0), (1, .long 0), (3, .int 0)] [] h rc rs n0 Q X) :
    Gm l x mX7_allThatFit 6 0 [(0, .ref a0)] [] h rc rs n0 Q X := by
  refine g_lconst (v := 0) dX7_allThatFit_0 (by decide) ?_
  refine g_lstore_n (lv' := [(0, .ref a0), (1, .long 0)]) dX7_allThatFit_1 rfl (by decide) rfl ?_
  refine g_iconst (v := 0) dX7_allThatFit_2 (by decide) ?_
  refine g_istore_n (lv' := [(0, .ref a0), (1, .long 0), (3, .int 0)]) dX7_allThatFit_3 rfl (by decide) rfl ?_
  exact K
set_option maxRecDepth 20000 in
set_option maxHeartbeats 4000000 in
theorem vX7_allThatFit_4 {l : Launch} {x : CX} {a0 : Nat} {l1 : Int64} {x3 : Int32} {h : PH} {rc rs n0 : Nat} {Q : Option Value → PH → Prop} {X : String → PH → Prop}
    (K : ((3 ≤ x3 → Q (some (.long l1)) h) ∧ (¬ 3 ≤ x3 → Gm l x mX7_allThatFit 6 12 [(0, .ref a0), (1, .long l1), (3, .int x3), (4, .int 0)] [] h rc rs n0 Q X))) :
    Gm l x mX7_allThatFit 6 4 [(0, .ref a0), (1, .long l1), (3, .int x3)] [] h rc rs n0 Q X := by
  refine g_iload_n dX7_allThatFit_4 rfl 2 rfl ?_
  refine g_iconst (v := 3) dX7_allThatFit_5 (by decide) ?_
  refine g_icmp_ge (tgt := 123) dX7_allThatFit_6 (by decide) (fun c1 => ?_) (fun c1 => ?_)
  · replace K := K.1 c1
    refine g_lload_n dX7_allThatFit_123 rfl 1 rfl ?_
    exact g_lret dX7_allThatFit_124 rfl K
  · replace K := K.2 c1
    refine g_iconst (v := 0) dX7_allThatFit_9 (by decide) ?_
    refine g_istore (lv' := [(0, .ref a0), (1, .long l1), (3, .int x3), (4, .int 0)]) dX7_allThatFit_10 (by decide) rfl ?_
    exact K
set_option maxRecDepth 20000 in
set_option maxHeartbeats 4000000 in
theorem vX7_allThatFit_12 {l : Launch} {x : CX} {a0 : Nat} {l1 : Int64} {x3 : Int32} {x4 : Int32} {h : PH} {rc rs n0 : Nat} {Q : Option Value → PH → Prop} {X : String → PH → Prop}
    (K : ((12 ≤ x4 → Gm l x mX7_allThatFit 6 4 [(0, .ref a0), (1, .long l1), (3, .int (x3 + 1))] [] h rc rs n0 Q X) ∧ (¬ 12 ≤ x4 → ((hK h a0).1 = 7) ∧ ∃ b3, (hR h a0 3 = some b3) ∧ ((hK h b3).1 = 5) ∧ ∃ (q5 : Int32 → PH → Prop), CI l x mX5_run 5 0 0 [.ref b3, .int x3, .int x4] h q5 ∧ ∀ (r9 : Int32) (h8 : PH), q5 r9 h8 → Gm l x mX7_allThatFit 6 37 [(0, .ref a0), (1, .long l1), (3, .int x3), (4, .int x4), (5, .int r9), (6, .int 1), (7, .int 0)] [] h8 rc rs n0 Q X))) :
    Gm l x mX7_allThatFit 6 12 [(0, .ref a0), (1, .long l1), (3, .int x3), (4, .int x4)] [] h rc rs n0 Q X := by
  refine g_iload dX7_allThatFit_12 3 rfl ?_
  refine g_bipush (v := 12) dX7_allThatFit_14 (by decide) ?_
  refine g_icmp_ge (tgt := 117) dX7_allThatFit_16 (by decide) (fun c1 => ?_) (fun c1 => ?_)
  · replace K := K.1 c1
    refine g_iinc (v := (x3 + 1)) (lv' := [(0, .ref a0), (1, .long l1), (3, .int (x3 + 1)), (4, .int x4)]) dX7_allThatFit_117 2 rfl (by rfl) (by decide) rfl ?_
    refine g_goto (tgt := 4) dX7_allThatFit_120 (by decide) ?_
    exact Gm.sub [0, 1, 2] rfl K
  · replace K := K.2 c1
    refine g_aload_n dX7_allThatFit_19 rfl 0 rfl ?_
    obtain ⟨e2, b3, e4, K⟩ := K
    refine g_get (c := 7) (k := 3) (v := .ref b3) dX7_allThatFit_20 fc_7 (by decide) (by decide) bw_405 (congrArg pr e4) e2 ?_
    refine g_iload_n dX7_allThatFit_23 rfl 2 rfl ?_
    refine g_iload dX7_allThatFit_24 3 rfl ?_
    obtain ⟨e7, K⟩ := K
    obtain ⟨q5, C6, K⟩ := K
    refine g_callV (M' := mX5_run) (b := b3) (As := [.int x3, .int x4]) (rest := []) (rc' := rc) (rs' := rs) dX7_allThatFit_26 bw_1074 bw_930 bw_931 bw_6 bw_932 ⟨by decide +kernel, by decide +kernel, show (parseMethodDescriptor mX5_run.1.desc).map (fun d => d.parameters.length) = some 2 by decide +kernel⟩ (by decide) (by decide) (Nat.le_of_ble_eq_true rfl) fc_5 (by decide) rfl e7 C6 (Nat.le_of_eq (Nat.add_zero _)) (Nat.le_of_eq (Nat.add_zero _)) (fun _ _ h => h) ?_
    rintro _ h8 ⟨r9, rfl, K1⟩ -
    replace K := K r9 h8 K1
    show Gm l x mX7_allThatFit 6 29 [(0, .ref a0), (1, .long l1), (3, .int x3), (4, .int x4)] [.int r9] h8 rc rs n0 Q X
    refine g_istore (lv' := [(0, .ref a0), (1, .long l1), (3, .int x3), (4, .int x4), (5, .int r9)]) dX7_allThatFit_29 (by decide) rfl ?_
    refine g_iconst (v := 1) dX7_allThatFit_31 (by decide) ?_
    refine g_istore (lv' := [(0, .ref a0), (1, .long l1), (3, .int x3), (4, .int x4), (5, .int r9), (6, .int 1)]) dX7_allThatFit_32 (by decide) rfl ?_
    refine g_iconst (v := 0) dX7_allThatFit_34 (by decide) ?_
    refine g_istore (lv' := [(0, .ref a0), (1, .long l1), (3, .int x3), (4, .int x4), (5, .int r9), (6, .int 1), (7, .int 0)]) dX7_allThatFit_35 (by decide) rfl ?_
    exact K
set_option maxRecDepth 20000 in
set_option maxHeartbeats 4000000 in
theorem vX7_allThatFit_37 {l : Launch} {x : CX} {a0 : Nat} {l1 : Int64} {x3 : Int32} {x4 : Int32} {x5 : Int32} {x6 : Int32} {x7 : Int32} {h : PH} {rc rs n0 : Nat} {Q : Option Value → PH → Prop} {X : String → PH → Prop}
    (K : ((hK h a0).1 = 7) ∧ ∃ b2, (hR h a0 4 = some b2) ∧ ((hK h b2).1 = 3) ∧ (((hI h b2 4) ≤ x7 → Gm l x mX7_allThatFit 6 12 [(0, .ref a0), (1, .long (if x6 = 0 then l1 else (l1 ||| (lsh 1 x5)) : Int64)), (3, .int x3), (4, .int (x4 + 1))] [] h rc rs n0 Q X) ∧ (¬ (hI h b2 4) ≤ x7 → ((x6 = 0 → Gm l x mX7_allThatFit 6 37 [(0, .ref a0), (1, .long l1), (3, .int x3), (4, .int x4), (5, .int x5), (6, .int 0), (7, .int (x7 + 1))] [] h rc rs n0 Q X) ∧ (¬ x6 = 0 → ∃ b8, (hR h a0 3 = some b8) ∧ ∃ b10, (hR h b2 2 = some b10) ∧ ((hK h b10).1 = 100) ∧ (vp_in x7 (hK h b10).2) ∧ ((hK h b8).1 = 5) ∧ ∃ (q14 : Int32 → PH → Prop), CI l x mX5_doneTime 0 0 0 [.ref b8, .int x5, .int (hI h b10 x7.toNatClampNeg)] h q14 ∧ ∀ (r18 : Int32) (h17 : PH), q14 r18 h17 → ((hK h17 a0).1 = 7) ∧ ∃ b20, (hR h17 a0 4 = some b20) ∧ ((hK h17 b20).1 = 3) ∧ ∃ b23, (hR h17 b20 3 = some b23) ∧ ((hK h17 b23).1 = 100) ∧ (vp_in x7 (hK h17 b23).2) ∧ ∀ (y28 : Int32), y28 = (if r18 = (hI h17 b23 x7.toNatClampNeg) then 1 else 0 : Int32) → Gm l x mX7_allThatFit 6 37 [(0, .ref a0), (1, .long l1), (3, .int x3), (4, .int x4), (5, .int x5), (6, .int y28), (7, .int (x7 + 1))] [] h17 rc rs n0 Q X))))) :
    Gm l x mX7_allThatFit 6 37 [(0, .ref a0), (1, .long l1), (3, .int x3), (4, .int x4), (5, .int x5), (6, .int x6), (7, .int x7)] [] h rc rs n0 Q X := by
  refine g_iload dX7_allThatFit_37 6 rfl ?_
  refine g_aload_n dX7_allThatFit_39 rfl 0 rfl ?_
  obtain ⟨e1, b2, e3, K⟩ := K
  refine g_get (c := 7) (k := 4) (v := .ref b2) dX7_allThatFit_40 fc_7 (by decide) (by decide) bw_406 (congrArg pr e3) e1 ?_
  obtain ⟨e4, K⟩ := K
  refine g_get (c := 3) (k := 4) (v := .int (hI h b2 4)) dX7_allThatFit_43 fc_3 (by decide) (by decide) bw_386 rfl e4 ?_
  refine g_icmp_ge (tgt := 99) dX7_allThatFit_46 (by decide) (fun c5 => ?_) (fun c5 => ?_)
  · replace K := K.1 c5
    refine g_iload dX7_allThatFit_99 5 rfl ?_
    have KJ : Gm l x mX7_allThatFit 6 111 [(0, .ref a0), (1, .long (if x6 = 0 then l1 else (l1 ||| (lsh 1 x5)) : Int64)), (3, .int x3), (4, .int x4), (5, .int x5), (6, .int x6), (7, .int x7)] [] h rc rs n0 Q X := by
      refine g_iinc (v := (x4 + 1)) (lv' := [(0, .ref a0), (1, .long (if x6 = 0 then l1 else (l1 ||| (lsh 1 x5)) : Int64)), (3, .int x3), (4, .int (x4 + 1)), (5, .int x5), (6, .int x6), (7, .int x7)]) dX7_allThatFit_111 3 rfl (by rfl) (by decide) rfl ?_
      refine g_goto (tgt := 12) dX7_allThatFit_114 (by decide) ?_
      exact Gm.sub [0, 1, 2, 3] rfl K
    refine g_if_eq (tgt := 111) dX7_allThatFit_101 (by decide) (fun c6 => ?_) (fun c6 => ?_)
    · first | (simp only [if_pos c6] at KJ; exact KJ) | (simp only [if_pos c6, ite_true, ite_false, eq_self] at KJ; exact KJ) | (simp only [if_pos c6] at KJ ⊢; exact KJ) | exact KJ
    · refine g_lload_n dX7_allThatFit_104 rfl 1 rfl ?_
      refine g_lconst (v := 1) dX7_allThatFit_105 (by decide) ?_
      refine g_iload dX7_allThatFit_106 4 rfl ?_
      refine g_lshl dX7_allThatFit_108 ?_
      refine g_lor dX7_allThatFit_109 ?_
      refine g_lstore_n (lv' := [(0, .ref a0), (1, .long (l1 ||| (lsh 1 x5))), (3, .int x3), (4, .int x4), (5, .int x5), (6, .int x6), (7, .int x7)]) dX7_allThatFit_110 rfl (by decide) rfl ?_
      first | (simp only [if_neg c6] at KJ; exact KJ) | (simp only [if_neg c6, ite_true, ite_false, eq_self] at KJ; exact KJ) | (simp only [if_neg c6] at KJ ⊢; exact KJ) | exact KJ
  · replace K := K.2 c5
    refine g_iload dX7_allThatFit_49 5 rfl ?_
    refine g_if_eq (tgt := 90) dX7_allThatFit_51 (by decide) (fun c7 => ?_) (fun c7 => ?_)
    · replace K := K.1 c7
      refine g_iconst (v := 0) dX7_allThatFit_90 (by decide) ?_
      refine g_istore (lv' := [(0, .ref a0), (1, .long l1), (3, .int x3), (4, .int x4), (5, .int x5), (6, .int 0), (7, .int x7)]) dX7_allThatFit_91 (by decide) rfl ?_
      refine g_iinc (v := (x7 + 1)) (lv' := [(0, .ref a0), (1, .long l1), (3, .int x3), (4, .int x4), (5, .int x5), (6, .int 0), (7, .int (x7 + 1))]) dX7_allThatFit_93 6 rfl (by rfl) (by decide) rfl ?_
      refine g_goto (tgt := 37) dX7_allThatFit_96 (by decide) ?_
      exact K
    · replace K := K.2 c7
      refine g_aload_n dX7_allThatFit_54 rfl 0 rfl ?_
      obtain ⟨b8, e9, K⟩ := K
      refine g_get (c := 7) (k := 3) (v := .ref b8) dX7_allThatFit_55 fc_7 (by decide) (by decide) bw_405 (congrArg pr e9) e1 ?_
      refine g_iload dX7_allThatFit_58 4 rfl ?_
      refine g_aload_n dX7_allThatFit_60 rfl 0 rfl ?_
      refine g_get (c := 7) (k := 4) (v := .ref b2) dX7_allThatFit_61 fc_7 (by decide) (by decide) bw_406 (congrArg pr e3) e1 ?_
      obtain ⟨b10, e11, K⟩ := K
      refine g_get (c := 3) (k := 2) (v := .ref b10) dX7_allThatFit_64 fc_3 (by decide) (by decide) bw_382 (congrArg pr e11) e4 ?_
      refine g_iload dX7_allThatFit_67 6 rfl ?_
      obtain ⟨e12, e13, K⟩ := K
      refine g_iald dX7_allThatFit_69 e12 e13 ?_
      obtain ⟨e16, K⟩ := K
      obtain ⟨q14, C15, K⟩ := K
      refine g_callV (M' := mX5_doneTime) (b := b8) (As := [.int x5, .int (hI h b10 x7.toNatClampNeg)]) (rest := []) (rc' := rc) (rs' := rs) dX7_allThatFit_70 bw_1103 bw_1104 bw_1105 bw_6 bw_1106 ⟨by decide +kernel, by decide +kernel, show (parseMethodDescriptor mX5_doneTime.1.desc).map (fun d => d.parameters.length) = some 2 by decide +kernel⟩ (by decide) (by decide) (Nat.le_of_ble_eq_true rfl) fc_5 (by decide) rfl e16 C15 (Nat.le_of_eq (Nat.add_zero _)) (Nat.le_of_eq (Nat.add_zero _)) (fun _ _ h => h) ?_
      rintro _ h17 ⟨r18, rfl, K1⟩ -
      replace K := K r18 h17 K1
      show Gm l x mX7_allThatFit 6 73 [(0, .ref a0), (1, .long l1), (3, .int x3), (4, .int x4), (5, .int x5), (6, .int x6), (7, .int x7)] [.int r18] h17 rc rs n0 Q X
      refine g_aload_n dX7_allThatFit_73 rfl 0 rfl ?_
      obtain ⟨e19, b20, e21, K⟩ := K
      refine g_get (c := 7) (k := 4) (v := .ref b20) dX7_allThatFit_74 fc_7 (by decide) (by decide) bw_406 (congrArg pr e21) e19 ?_
      obtain ⟨e22, b23, e24, K⟩ := K
      refine g_get (c := 3) (k := 3) (v := .ref b23) dX7_allThatFit_77 fc_3 (by decide) (by decide) bw_384 (congrArg pr e24) e22 ?_
      refine g_iload dX7_allThatFit_80 6 rfl ?_
      obtain ⟨e25, e26, K⟩ := K
      refine g_iald dX7_allThatFit_82 e25 e26 ?_
      have KJ : Gm l x mX7_allThatFit 6 91 [(0, .ref a0), (1, .long l1), (3, .int x3), (4, .int x4), (5, .int x5), (6, .int x6), (7, .int x7)] [.int (if r18 = (hI h17 b23 x7.toNatClampNeg) then 1 else 0 : Int32)] h17 rc rs n0 Q X := by
        refine g_nmI (fun y28 e29 => ?_)
        replace K := K y28 e29
        refine g_istore (lv' := [(0, .ref a0), (1, .long l1), (3, .int x3), (4, .int x4), (5, .int x5), (6, .int y28), (7, .int x7)]) dX7_allThatFit_91 (by decide) rfl ?_
        refine g_iinc (v := (x7 + 1)) (lv' := [(0, .ref a0), (1, .long l1), (3, .int x3), (4, .int x4), (5, .int x5), (6, .int y28), (7, .int (x7 + 1))]) dX7_allThatFit_93 6 rfl (by rfl) (by decide) rfl ?_
        refine g_goto (tgt := 37) dX7_allThatFit_96 (by decide) ?_
        exact K
      refine g_icmp_ne (tgt := 90) dX7_allThatFit_83 (by decide) (fun c27 => ?_) (fun c27 => ?_)
      · refine g_iconst (v := 0) dX7_allThatFit_90 (by decide) ?_
        first | (simp only [if_neg c27] at KJ; exact KJ) | (simp only [if_neg c27, ite_true, ite_false, eq_self] at KJ; exact KJ) | (simp only [if_neg c27] at KJ ⊢; exact KJ) | exact KJ
      · refine g_iconst (v := 1) dX7_allThatFit_86 (by decide) ?_
        refine g_goto (tgt := 91) dX7_allThatFit_87 (by decide) ?_
        first | (simp only [if_pos c27] at KJ; exact KJ) | (simp only [if_pos c27, ite_true, ite_false, eq_self] at KJ; exact KJ) | (simp only [if_pos c27] at KJ ⊢; exact KJ) | exact KJ
theorem dX7_image_0 : decode cX7_image 0 = .ok (.aload_n 0, 1) := by decide +kernel
theorem dX7_image_1 : decode cX7_image 1 = .ok (.getfield 41, 3) := by decide +kernel
theorem dX7_image_4 : decode cX7_image 4 = .ok (.ifnonnull 14, 3) := by decide +kernel
theorem dX7_image_7 : decode cX7_image 7 = .ok (.aload_n 0, 1) := by decide +kernel
theorem dX7_image_8 : decode cX7_image 8 = .ok (.new 34, 3) := by decide +kernel
theorem dX7_image_11 : decode cX7_image 11 = .ok (.dup, 1) := by decide +kernel
theorem dX7_image_12 : decode cX7_image 12 = .ok (.invokespecial 36, 3) := by decide +kernel
theorem dX7_image_15 : decode cX7_image 15 = .ok (.putfield 41, 3) := by decide +kernel
theorem dX7_image_18 : decode cX7_image 18 = .ok (.aload_n 0, 1) := by decide +kernel
theorem dX7_image_19 : decode cX7_image 19 = .ok (.getfield 41, 3) := by decide +kernel
theorem dX7_image_22 : decode cX7_image 22 = .ok (.aload_n 0, 1) := by decide +kernel
theorem dX7_image_23 : decode cX7_image 23 = .ok (.getfield 37, 3) := by decide +kernel
theorem dX7_image_26 : decode cX7_image 26 = .ok (.invokevirtual 398, 3) := by decide +kernel
theorem dX7_image_29 : decode cX7_image 29 = .ok (.aload_n 0, 1) := by decide +kernel
theorem dX7_image_30 : decode cX7_image 30 = .ok (.iconst 1, 1) := by decide +kernel
theorem dX7_image_31 : decode cX7_image 31 = .ok (.putfield 44, 3) := by decide +kernel
theorem dX7_image_34 : decode cX7_image 34 = .ok (.return_, 1) := by decide +kernel
set_option maxRecDepth 20000 in
set_option maxHeartbeats 4000000 in
theorem vX7_image_0 {l : Launch} {x : CX} {a0 : Nat} {h : PH} {rc rs n0 : Nat} {Q : Option Value → PH → Prop} {X : String → PH → Prop}
    (K : ((hK h a0).1 = 7) ∧ ((∀ b2, hR h a0 5 = some b2 → ∃ b4, (hR h a0 5 = some b4) ∧ ∃ b6, (hR h a0 4 = some b6) ∧ ((hK h b4).1 = 3) ∧ ∃ (mc10 ms11 : Nat) (q8 : PH → Prop), mc10 ≤ rc ∧ ms11 ≤ rs ∧ CV l x mX3_copyFrom 5 mc10 ms11 [.ref b4, .ref b6] h q8 ∧ ∀ (h13 : PH), q8 h13 → ((hK h13 a0).1 = 7) ∧ Q none (sI h13 a0 6 1)) ∧ (hR h a0 5 = none → (1 ≤ rc) ∧ (6 ≤ rs) ∧ ∀ (h19 : PH), h19 = (nw h (3, 0)) → (NestOk x RX7 36 yX3_init "LiftBank") ∧ ∃ (mc22 ms23 : Nat) (q20 : PH → Prop), mc22 ≤ (rc - 1) ∧ ms23 ≤ (rs - 6) ∧ CV l x mX3_init 3 mc22 ms23 [.ref (hN h)] h19 q20 ∧ ∀ (h24 : PH), q20 h24 → ((hK h24 a0).1 = 7) ∧ ∃ b26, (hR (sR h24 a0 5 (some (hN h))) a0 5 = some b26) ∧ ∃ b28, (hR (sR h24 a0 5 (some (hN h))) a0 4 = some b28) ∧ ((hK h24 b26).1 = 3) ∧ ∃ (mc32 ms33 : Nat) (q30 : PH → Prop), mc32 ≤ ((rc - 1) - mc22) ∧ ms33 ≤ ((rs - 6) - ms23) ∧ CV l x mX3_copyFrom 5 mc32 ms33 [.ref b26, .ref b28] (sR h24 a0 5 (some (hN h))) q30 ∧ ∀ (h35 : PH), q30 h35 → ((hK h35 a0).1 = 7) ∧ Q none (sI h35 a0 6 1)))) :
    Gm l x mX7_image 6 0 [(0, .ref a0)] [] h rc rs n0 Q X := by
  refine g_aload_n dX7_image_0 rfl 0 rfl ?_
  obtain ⟨e1, K⟩ := K
  cases e3 : hR h a0 5 with
  | some b2 =>
    replace K := K.1 b2 e3
    refine g_get (c := 7) (k := 5) (v := .ref b2) dX7_image_1 fc_7 (by decide) (by decide) bw_407 (congrArg pr e3) e1 ?_
    refine g_ifnonnull (tgt := 18) dX7_image_4 (by decide) ?_
    refine g_aload_n dX7_image_18 rfl 0 rfl ?_
    obtain ⟨b4, e5, K⟩ := K
    refine g_get (c := 7) (k := 5) (v := .ref b4) dX7_image_19 fc_7 (by decide) (by decide) bw_407 (congrArg pr e5) e1 ?_
    refine g_aload_n dX7_image_22 rfl 0 rfl ?_
    obtain ⟨b6, e7, K⟩ := K
    refine g_get (c := 7) (k := 4) (v := .ref b6) dX7_image_23 fc_7 (by decide) (by decide) bw_406 (congrArg pr e7) e1 ?_
    obtain ⟨e12, K⟩ := K
    obtain ⟨mc10, ms11, q8, e15, e16, C9, K⟩ := K
    refine g_callV (M' := mX3_copyFrom) (b := b4) (As := [.ref b6]) (rest := []) (rc' := (rc - mc10)) (rs' := (rs - ms11)) dX7_image_26 bw_668 bw_669 bw_670 bw_7 bw_671 ⟨by decide +kernel, by decide +kernel, show (parseMethodDescriptor mX3_copyFrom.1.desc).map (fun d => d.parameters.length) = some 1 by decide +kernel⟩ (by decide) (by decide) (Nat.le_of_ble_eq_true rfl) fc_3 (by decide) rfl e12 C9 (by omega) (by omega) (fun _ _ h => h) ?_
    rintro _ h13 ⟨rfl, K1⟩ -
    replace K := K h13 K1
    show Gm l x mX7_image 6 29 [(0, .ref a0)] [] h13 (rc - mc10) (rs - ms11) n0 Q X
    refine g_aload_n dX7_image_29 rfl 0 rfl ?_
    refine g_iconst (v := 1) dX7_image_30 (by decide) ?_
    obtain ⟨e14, K⟩ := K
    refine g_putz (c := 7) (k := 6) dX7_image_31 fc_7 (by decide) (by decide) bw_408 (Or.inl rfl) rfl (by decide) e14 ?_
    exact g_vret dX7_image_34 rfl K
  | none =>
    replace K := K.2 e3
    refine g_get (c := 7) (k := 5) (v := .null) dX7_image_1 fc_7 (by decide) (by decide) bw_407 (congrArg pr e3) e1 ?_
    refine g_ifnonnullN dX7_image_4 ?_
    refine g_aload_n dX7_image_7 rfl 0 rfl ?_
    obtain ⟨e17, e18, K⟩ := K
    refine g_new (c := 3) (rc' := (rc - 1)) (rs' := (rs - 6)) dX7_image_8 fc_3 (by decide) (by decide) bw_350 bw_351 bw_7 (by omega) (show (rs - 6) + 6 ≤ rs by omega) ?_
    generalize e42 : (nw h (3, 0)) = h19
    replace K := K h19 e42.symm
    refine g_dup dX7_image_11 rfl ?_
    obtain ⟨z41, K⟩ := K
    obtain ⟨mc22, ms23, q20, e39, e40, C21, K⟩ := K
    refine g_callIN (M' := mX3_init) (b := (hN h)) (As := []) (rest := [.ref (hN h), .ref a0]) (rc' := ((rc - 1) - mc22)) (rs' := ((rs - 6) - ms23)) dX7_image_12 z41 bw_353 rfl rfl bw_7 bw_354 ⟨by decide +kernel, by decide +kernel, show (parseMethodDescriptor mX3_init.1.desc).map (fun d => d.parameters.length) = some 0 by decide +kernel⟩ (by decide) (by decide) (Nat.le_of_ble_eq_true rfl) C21 (by omega) (by omega) (fun _ _ h => h) ?_
    rintro _ h24 ⟨rfl, K1⟩ -
    replace K := K h24 K1
    show Gm l x mX7_image 6 15 [(0, .ref a0)] [.ref (hN h), .ref a0] h24 ((rc - 1) - mc22) ((rs - 6) - ms23) n0 Q X
    obtain ⟨e25, K⟩ := K
    refine g_putr (c := 7) (k := 5) dX7_image_15 fc_7 (by decide) (by decide) bw_407 (Or.inl rfl) (Or.inl ⟨_, rfl⟩) e25 ?_
    refine g_aload_n dX7_image_18 rfl 0 rfl ?_
    obtain ⟨b26, e27, K⟩ := K
    refine g_get (c := 7) (k := 5) (v := .ref b26) dX7_image_19 fc_7 (by decide) (by decide) bw_407 (congrArg pr e27) (kkR e25) ?_
    refine g_aload_n dX7_image_22 rfl 0 rfl ?_
    obtain ⟨b28, e29, K⟩ := K
    refine g_get (c := 7) (k := 4) (v := .ref b28) dX7_image_23 fc_7 (by decide) (by decide) bw_406 (congrArg pr e29) (kkR e25) ?_
    obtain ⟨e34, K⟩ := K
    obtain ⟨mc32, ms33, q30, e37, e38, C31, K⟩ := K
    refine g_callV (M' := mX3_copyFrom) (b := b26) (As := [.ref b28]) (rest := []) (rc' := (((rc - 1) - mc22) - mc32)) (rs' := (((rs - 6) - ms23) - ms33)) dX7_image_26 bw_668 bw_669 bw_670 bw_7 bw_671 ⟨by decide +kernel, by decide +kernel, show (parseMethodDescriptor mX3_copyFrom.1.desc).map (fun d => d.parameters.length) = some 1 by decide +kernel⟩ (by decide) (by decide) (Nat.le_of_ble_eq_true rfl) fc_3 (by decide) rfl (kkR e34) C31 (by omega) (by omega) (fun _ _ h => h) ?_
    rintro _ h35 ⟨rfl, K1⟩ -
    replace K := K h35 K1
    show Gm l x mX7_image 6 29 [(0, .ref a0)] [] h35 (((rc - 1) - mc22) - mc32) (((rs - 6) - ms23) - ms33) n0 Q X
    refine g_aload_n dX7_image_29 rfl 0 rfl ?_
    refine g_iconst (v := 1) dX7_image_30 (by decide) ?_
    obtain ⟨e36, K⟩ := K
    refine g_putz (c := 7) (k := 6) dX7_image_31 fc_7 (by decide) (by decide) bw_408 (Or.inl rfl) rfl (by decide) e36 ?_
    exact g_vret dX7_image_34 rfl K
theorem dX7_restore_0 : decode cX7_restore 0 = .ok (.aload_n 0, 1) := by decide +kernel
theorem dX7_restore_1 : decode cX7_restore 1 = .ok (.getfield 44, 3) := by decide +kernel
theorem dX7_restore_4 : decode cX7_restore 4 = .ok (.ifCond .eq 10, 3) := by decide +kernel
theorem dX7_restore_7 : decode cX7_restore 7 = .ok (.aload_n 0, 1) := by decide +kernel
theorem dX7_restore_8 : decode cX7_restore 8 = .ok (.getfield 41, 3) := by decide +kernel
theorem dX7_restore_11 : decode cX7_restore 11 = .ok (.ifnonnull 5, 3) := by decide +kernel
theorem dX7_restore_14 : decode cX7_restore 14 = .ok (.iconst 0, 1) := by decide +kernel
theorem dX7_restore_15 : decode cX7_restore 15 = .ok (.ireturn, 1) := by decide +kernel
theorem dX7_restore_16 : decode cX7_restore 16 = .ok (.aload_n 0, 1) := by decide +kernel
theorem dX7_restore_17 : decode cX7_restore 17 = .ok (.getfield 37, 3) := by decide +kernel
theorem dX7_restore_20 : decode cX7_restore 20 = .ok (.aload_n 0, 1) := by decide +kernel
theorem dX7_restore_21 : decode cX7_restore 21 = .ok (.getfield 41, 3) := by decide +kernel
theorem dX7_restore_24 : decode cX7_restore 24 = .ok (.invokevirtual 398, 3) := by decide +kernel
theorem dX7_restore_27 : decode cX7_restore 27 = .ok (.iconst 1, 1) := by decide +kernel
theorem dX7_restore_28 : decode cX7_restore 28 = .ok (.ireturn, 1) := by decide +kernel
set_option maxRecDepth 20000 in
set_option maxHeartbeats 4000000 in
theorem vX7_restore_0 {l : Launch} {x : CX} {a0 : Nat} {h : PH} {rc rs n0 : Nat} {Q : Option Value → PH → Prop} {X : String → PH → Prop}
    (K : ((hK h a0).1 = 7) ∧ (((hI h a0 6) = 0 → ((0 : Int32) = 0 ∨ (0 : Int32) = 1) ∧ Q (some (.int 0)) h) ∧ (¬ (hI h a0 6) = 0 → ((∀ b3, hR h a0 5 = some b3 → ∃ b5, (hR h a0 4 = some b5) ∧ ∃ b7, (hR h a0 5 = some b7) ∧ ((hK h b5).1 = 3) ∧ ∃ (mc11 ms12 : Nat) (q9 : PH → Prop), mc11 ≤ rc ∧ ms12 ≤ rs ∧ CV l x mX3_copyFrom 5 mc11 ms12 [.ref b5, .ref b7] h q9 ∧ ∀ (h14 : PH), q9 h14 → ((1 : Int32) = 0 ∨ (1 : Int32) = 1) ∧ Q (some (.int 1)) h14) ∧ (hR h a0 5 = none → ((0 : Int32) = 0 ∨ (0 : Int32) = 1) ∧ Q (some (.int 0)) h))))) :
    Gm l x mX7_restore 6 0 [(0, .ref a0)] [] h rc rs n0 Q X := by
  refine g_aload_n dX7_restore_0 rfl 0 rfl ?_
  obtain ⟨e1, K⟩ := K
  refine g_get (c := 7) (k := 6) (v := .int (hI h a0 6)) dX7_restore_1 fc_7 (by decide) (by decide) bw_408 rfl e1 ?_
  refine g_if_eq (tgt := 14) dX7_restore_4 (by decide) (fun c2 => ?_) (fun c2 => ?_)
  · replace K := K.1 c2
    refine g_iconst (v := 0) dX7_restore_14 (by decide) ?_
    exact g_zret dX7_restore_15 rfl K.1 K.2
  · replace K := K.2 c2
    refine g_aload_n dX7_restore_7 rfl 0 rfl ?_
    cases e4 : hR h a0 5 with
    | some b3 =>
      replace K := K.1 b3 e4
      refine g_get (c := 7) (k := 5) (v := .ref b3) dX7_restore_8 fc_7 (by decide) (by decide) bw_407 (congrArg pr e4) e1 ?_
      refine g_ifnonnull (tgt := 16) dX7_restore_11 (by decide) ?_
      refine g_aload_n dX7_restore_16 rfl 0 rfl ?_
      obtain ⟨b5, e6, K⟩ := K
      refine g_get (c := 7) (k := 4) (v := .ref b5) dX7_restore_17 fc_7 (by decide) (by decide) bw_406 (congrArg pr e6) e1 ?_
      refine g_aload_n dX7_restore_20 rfl 0 rfl ?_
      obtain ⟨b7, e8, K⟩ := K
      refine g_get (c := 7) (k := 5) (v := .ref b7) dX7_restore_21 fc_7 (by decide) (by decide) bw_407 (congrArg pr e8) e1 ?_
      obtain ⟨e13, K⟩ := K
      obtain ⟨mc11, ms12, q9, e15, e16, C10, K⟩ := K
      refine g_callV (M' := mX3_copyFrom) (b := b5) (As := [.ref b7]) (rest := []) (rc' := (rc - mc11)) (rs' := (rs - ms12)) dX7_restore_24 bw_668 bw_669 bw_670 bw_7 bw_671 ⟨by decide +kernel, by decide +kernel, show (parseMethodDescriptor mX3_copyFrom.1.desc).map (fun d => d.parameters.length) = some 1 by decide +kernel⟩ (by decide) (by decide) (Nat.le_of_ble_eq_true rfl) fc_3 (by decide) rfl e13 C10 (by omega) (by omega) (fun _ _ h => h) ?_
      rintro _ h14 ⟨rfl, K1⟩ -
      replace K := K h14 K1
      show Gm l x mX7_restore 6 27 [(0, .ref a0)] [] h14 (rc - mc11) (rs - ms12) n0 Q X
      refine g_iconst (v := 1) dX7_restore_27 (by decide) ?_
      exact g_zret dX7_restore_28 rfl K.1 K.2
    | none =>
      replace K := K.2 e4
      refine g_get (c := 7) (k := 5) (v := .null) dX7_restore_8 fc_7 (by decide) (by decide) bw_407 (congrArg pr e4) e1 ?_
      refine g_ifnonnullN dX7_restore_11 ?_
      refine g_iconst (v := 0) dX7_restore_14 (by decide) ?_
      exact g_zret dX7_restore_15 rfl K.1 K.2
theorem dX7_count_0 : decode cX7_count 0 = .ok (.aload_n 0, 1) := by decide +kernel
theorem dX7_count_1 : decode cX7_count 1 = .ok (.getfield 37, 3) := by decide +kernel
theorem dX7_count_4 : decode cX7_count 4 = .ok (.getfield 81, 3) := by decide +kernel
theorem dX7_count_7 : decode cX7_count 7 = .ok (.astore_n 2, 1) := by decide +kernel
theorem dX7_count_8 : decode cX7_count 8 = .ok (.iload_n 1, 1) := by decide +kernel
theorem dX7_count_9 : decode cX7_count 9 = .ok (.tableswitch 370 0 29 #[135, 140, 145, 150, 155, 160, 165, 170, 175, 188, 194, 200, 205, 213, 218, 223, 236, 241, 253, 269, 285, 296, 304, 312, 322, 332, 342, 347, 359, 365], 135) := by decide +kernel
theorem dX7_count_144 : decode cX7_count 144 = .ok (.aload_n 2, 1) := by decide +kernel
theorem dX7_count_145 : decode cX7_count 145 = .ok (.getfield 84, 3) := by decide +kernel
theorem dX7_count_148 : decode cX7_count 148 = .ok (.ireturn, 1) := by decide +kernel
theorem dX7_count_149 : decode cX7_count 149 = .ok (.aload_n 2, 1) := by decide +kernel
theorem dX7_count_150 : decode cX7_count 150 = .ok (.getfield 87, 3) := by decide +kernel
theorem dX7_count_153 : decode cX7_count 153 = .ok (.ireturn, 1) := by decide +kernel
theorem dX7_count_154 : decode cX7_count 154 = .ok (.aload_n 2, 1) := by decide +kernel
theorem dX7_count_155 : decode cX7_count 155 = .ok (.getfield 90, 3) := by decide +kernel
theorem dX7_count_158 : decode cX7_count 158 = .ok (.ireturn, 1) := by decide +kernel
theorem dX7_count_159 : decode cX7_count 159 = .ok (.aload_n 2, 1) := by decide +kernel
theorem dX7_count_160 : decode cX7_count 160 = .ok (.getfield 93, 3) := by decide +kernel
theorem dX7_count_163 : decode cX7_count 163 = .ok (.ireturn, 1) := by decide +kernel
theorem dX7_count_164 : decode cX7_count 164 = .ok (.aload_n 2, 1) := by decide +kernel
theorem dX7_count_165 : decode cX7_count 165 = .ok (.getfield 96, 3) := by decide +kernel
theorem dX7_count_168 : decode cX7_count 168 = .ok (.ireturn, 1) := by decide +kernel
theorem dX7_count_169 : decode cX7_count 169 = .ok (.aload_n 2, 1) := by decide +kernel
theorem dX7_count_170 : decode cX7_count 170 = .ok (.getfield 99, 3) := by decide +kernel
theorem dX7_count_173 : decode cX7_count 173 = .ok (.ireturn, 1) := by decide +kernel
theorem dX7_count_174 : decode cX7_count 174 = .ok (.aload_n 2, 1) := by decide +kernel
theorem dX7_count_175 : decode cX7_count 175 = .ok (.getfield 102, 3) := by decide +kernel
theorem dX7_count_178 : decode cX7_count 178 = .ok (.ireturn, 1) := by decide +kernel
theorem dX7_count_179 : decode cX7_count 179 = .ok (.aload_n 2, 1) := by decide +kernel
theorem dX7_count_180 : decode cX7_count 180 = .ok (.getfield 105, 3) := by decide +kernel
theorem dX7_count_183 : decode cX7_count 183 = .ok (.ireturn, 1) := by decide +kernel
theorem dX7_count_184 : decode cX7_count 184 = .ok (.aload_n 2, 1) := by decide +kernel
theorem dX7_count_185 : decode cX7_count 185 = .ok (.getfield 108, 3) := by decide +kernel
theorem dX7_count_188 : decode cX7_count 188 = .ok (.ifCond .eq 7, 3) := by decide +kernel
theorem dX7_count_191 : decode cX7_count 191 = .ok (.iconst 1, 1) := by decide +kernel
theorem dX7_count_192 : decode cX7_count 192 = .ok (.goto 4, 3) := by decide +kernel
theorem dX7_count_195 : decode cX7_count 195 = .ok (.iconst 0, 1) := by decide +kernel
theorem dX7_count_196 : decode cX7_count 196 = .ok (.ireturn, 1) := by decide +kernel
theorem dX7_count_197 : decode cX7_count 197 = .ok (.aload_n 2, 1) := by decide +kernel
theorem dX7_count_198 : decode cX7_count 198 = .ok (.iconst 1, 1) := by decide +kernel
theorem dX7_count_199 : decode cX7_count 199 = .ok (.invokevirtual 111, 3) := by decide +kernel
theorem dX7_count_202 : decode cX7_count 202 = .ok (.ireturn, 1) := by decide +kernel
theorem dX7_count_203 : decode cX7_count 203 = .ok (.aload_n 2, 1) := by decide +kernel
theorem dX7_count_204 : decode cX7_count 204 = .ok (.iconst 2, 1) := by decide +kernel
theorem dX7_count_205 : decode cX7_count 205 = .ok (.invokevirtual 111, 3) := by decide +kernel
theorem dX7_count_208 : decode cX7_count 208 = .ok (.ireturn, 1) := by decide +kernel
theorem dX7_count_209 : decode cX7_count 209 = .ok (.aload_n 2, 1) := by decide +kernel
theorem dX7_count_210 : decode cX7_count 210 = .ok (.getfield 114, 3) := by decide +kernel
theorem dX7_count_213 : decode cX7_count 213 = .ok (.ireturn, 1) := by decide +kernel
theorem dX7_count_214 : decode cX7_count 214 = .ok (.aload_n 2, 1) := by decide +kernel
theorem dX7_count_215 : decode cX7_count 215 = .ok (.invokevirtual 117, 3) := by decide +kernel
theorem dX7_count_218 : decode cX7_count 218 = .ok (.invokestatic 121, 3) := by decide +kernel
theorem dX7_count_221 : decode cX7_count 221 = .ok (.ireturn, 1) := by decide +kernel
theorem dX7_count_222 : decode cX7_count 222 = .ok (.aload_n 2, 1) := by decide +kernel
theorem dX7_count_223 : decode cX7_count 223 = .ok (.invokevirtual 127, 3) := by decide +kernel
theorem dX7_count_226 : decode cX7_count 226 = .ok (.ireturn, 1) := by decide +kernel
theorem dX7_count_227 : decode cX7_count 227 = .ok (.aload_n 2, 1) := by decide +kernel
theorem dX7_count_228 : decode cX7_count 228 = .ok (.invokevirtual 131, 3) := by decide +kernel
theorem dX7_count_231 : decode cX7_count 231 = .ok (.ireturn, 1) := by decide +kernel
theorem dX7_count_232 : decode cX7_count 232 = .ok (.aload_n 2, 1) := by decide +kernel
theorem dX7_count_233 : decode cX7_count 233 = .ok (.getfield 134, 3) := by decide +kernel
theorem dX7_count_236 : decode cX7_count 236 = .ok (.ifCond .eq 7, 3) := by decide +kernel
theorem dX7_count_239 : decode cX7_count 239 = .ok (.iconst 1, 1) := by decide +kernel
theorem dX7_count_240 : decode cX7_count 240 = .ok (.goto 4, 3) := by decide +kernel
theorem dX7_count_243 : decode cX7_count 243 = .ok (.iconst 0, 1) := by decide +kernel
theorem dX7_count_244 : decode cX7_count 244 = .ok (.ireturn, 1) := by decide +kernel
theorem dX7_count_245 : decode cX7_count 245 = .ok (.aload_n 2, 1) := by decide +kernel
theorem dX7_count_246 : decode cX7_count 246 = .ok (.invokevirtual 137, 3) := by decide +kernel
theorem dX7_count_249 : decode cX7_count 249 = .ok (.ireturn, 1) := by decide +kernel
theorem dX7_count_250 : decode cX7_count 250 = .ok (.aload_n 0, 1) := by decide +kernel
theorem dX7_count_251 : decode cX7_count 251 = .ok (.getfield 30, 3) := by decide +kernel
theorem dX7_count_254 : decode cX7_count 254 = .ok (.aload_n 2, 1) := by decide +kernel
theorem dX7_count_255 : decode cX7_count 255 = .ok (.getfield 96, 3) := by decide +kernel
theorem dX7_count_258 : decode cX7_count 258 = .ok (.invokevirtual 140, 3) := by decide +kernel
theorem dX7_count_261 : decode cX7_count 261 = .ok (.ireturn, 1) := by decide +kernel
theorem dX7_count_262 : decode cX7_count 262 = .ok (.aload_n 0, 1) := by decide +kernel
theorem dX7_count_263 : decode cX7_count 263 = .ok (.getfield 30, 3) := by decide +kernel
theorem dX7_count_266 : decode cX7_count 266 = .ok (.aload_n 2, 1) := by decide +kernel
theorem dX7_count_267 : decode cX7_count 267 = .ok (.getfield 99, 3) := by decide +kernel
theorem dX7_count_270 : decode cX7_count 270 = .ok (.aload_n 2, 1) := by decide +kernel
theorem dX7_count_271 : decode cX7_count 271 = .ok (.getfield 96, 3) := by decide +kernel
theorem dX7_count_274 : decode cX7_count 274 = .ok (.invokevirtual 143, 3) := by decide +kernel
theorem dX7_count_277 : decode cX7_count 277 = .ok (.ireturn, 1) := by decide +kernel
theorem dX7_count_278 : decode cX7_count 278 = .ok (.aload_n 0, 1) := by decide +kernel
theorem dX7_count_279 : decode cX7_count 279 = .ok (.getfield 30, 3) := by decide +kernel
theorem dX7_count_282 : decode cX7_count 282 = .ok (.aload_n 2, 1) := by decide +kernel
theorem dX7_count_283 : decode cX7_count 283 = .ok (.getfield 99, 3) := by decide +kernel
theorem dX7_count_286 : decode cX7_count 286 = .ok (.aload_n 2, 1) := by decide +kernel
theorem dX7_count_287 : decode cX7_count 287 = .ok (.getfield 96, 3) := by decide +kernel
theorem dX7_count_290 : decode cX7_count 290 = .ok (.invokevirtual 147, 3) := by decide +kernel
theorem dX7_count_293 : decode cX7_count 293 = .ok (.ireturn, 1) := by decide +kernel
theorem dX7_count_294 : decode cX7_count 294 = .ok (.aload_n 0, 1) := by decide +kernel
theorem dX7_count_295 : decode cX7_count 295 = .ok (.getfield 37, 3) := by decide +kernel
theorem dX7_count_298 : decode cX7_count 298 = .ok (.getfield 150, 3) := by decide +kernel
theorem dX7_count_301 : decode cX7_count 301 = .ok (.getfield 154, 3) := by decide +kernel
theorem dX7_count_304 : decode cX7_count 304 = .ok (.ireturn, 1) := by decide +kernel
theorem dX7_count_305 : decode cX7_count 305 = .ok (.aload_n 0, 1) := by decide +kernel
theorem dX7_count_306 : decode cX7_count 306 = .ok (.getfield 37, 3) := by decide +kernel
theorem dX7_count_309 : decode cX7_count 309 = .ok (.getfield 159, 3) := by decide +kernel
theorem dX7_count_312 : decode cX7_count 312 = .ok (.ireturn, 1) := by decide +kernel
theorem dX7_count_313 : decode cX7_count 313 = .ok (.aload_n 0, 1) := by decide +kernel
theorem dX7_count_314 : decode cX7_count 314 = .ok (.getfield 10, 3) := by decide +kernel
theorem dX7_count_317 : decode cX7_count 317 = .ok (.getfield 48, 3) := by decide +kernel
theorem dX7_count_320 : decode cX7_count 320 = .ok (.ireturn, 1) := by decide +kernel
theorem dX7_count_321 : decode cX7_count 321 = .ok (.aload_n 0, 1) := by decide +kernel
theorem dX7_count_322 : decode cX7_count 322 = .ok (.getfield 37, 3) := by decide +kernel
theorem dX7_count_325 : decode cX7_count 325 = .ok (.getfield 69, 3) := by decide +kernel
theorem dX7_count_328 : decode cX7_count 328 = .ok (.iconst 0, 1) := by decide +kernel
theorem dX7_count_329 : decode cX7_count 329 = .ok (.iaload, 1) := by decide +kernel
theorem dX7_count_330 : decode cX7_count 330 = .ok (.ireturn, 1) := by decide +kernel
theorem dX7_count_331 : decode cX7_count 331 = .ok (.aload_n 0, 1) := by decide +kernel
theorem dX7_count_332 : decode cX7_count 332 = .ok (.getfield 37, 3) := by decide +kernel
theorem dX7_count_335 : decode cX7_count 335 = .ok (.getfield 69, 3) := by decide +kernel
theorem dX7_count_338 : decode cX7_count 338 = .ok (.iconst 1, 1) := by decide +kernel
theorem dX7_count_339 : decode cX7_count 339 = .ok (.iaload, 1) := by decide +kernel
theorem dX7_count_340 : decode cX7_count 340 = .ok (.ireturn, 1) := by decide +kernel
theorem dX7_count_341 : decode cX7_count 341 = .ok (.aload_n 0, 1) := by decide +kernel
theorem dX7_count_342 : decode cX7_count 342 = .ok (.getfield 37, 3) := by decide +kernel
theorem dX7_count_345 : decode cX7_count 345 = .ok (.getfield 69, 3) := by decide +kernel
theorem dX7_count_348 : decode cX7_count 348 = .ok (.iconst 2, 1) := by decide +kernel
theorem dX7_count_349 : decode cX7_count 349 = .ok (.iaload, 1) := by decide +kernel
theorem dX7_count_350 : decode cX7_count 350 = .ok (.ireturn, 1) := by decide +kernel
theorem dX7_count_351 : decode cX7_count 351 = .ok (.aload_n 2, 1) := by decide +kernel
theorem dX7_count_352 : decode cX7_count 352 = .ok (.invokevirtual 162, 3) := by decide +kernel
theorem dX7_count_355 : decode cX7_count 355 = .ok (.ireturn, 1) := by decide +kernel
theorem dX7_count_356 : decode cX7_count 356 = .ok (.aload_n 0, 1) := by decide +kernel
theorem dX7_count_357 : decode cX7_count 357 = .ok (.getfield 30, 3) := by decide +kernel
theorem dX7_count_360 : decode cX7_count 360 = .ok (.aload_n 2, 1) := by decide +kernel
theorem dX7_count_361 : decode cX7_count 361 = .ok (.getfield 96, 3) := by decide +kernel
theorem dX7_count_364 : decode cX7_count 364 = .ok (.invokevirtual 165, 3) := by decide +kernel
theorem dX7_count_367 : decode cX7_count 367 = .ok (.ireturn, 1) := by decide +kernel
theorem dX7_count_368 : decode cX7_count 368 = .ok (.aload_n 2, 1) := by decide +kernel
theorem dX7_count_369 : decode cX7_count 369 = .ok (.invokevirtual 168, 3) := by decide +kernel
theorem dX7_count_372 : decode cX7_count 372 = .ok (.f2i, 1) := by decide +kernel
theorem dX7_count_373 : decode cX7_count 373 = .ok (.ireturn, 1) := by decide +kernel
theorem dX7_count_374 : decode cX7_count 374 = .ok (.aload_n 0, 1) := by decide +kernel
theorem dX7_count_375 : decode cX7_count 375 = .ok (.invokevirtual 172, 3) := by decide +kernel
theorem dX7_count_378 : decode cX7_count 378 = .ok (.ireturn, 1) := by decide +kernel
theorem dX7_count_379 : decode cX7_count 379 = .ok (.new 175, 3) := by decide +kernel
theorem dX7_count_382 : decode cX7_count 382 = .ok (.dup, 1) := by decide +kernel
theorem dX7_count_383 : decode cX7_count 383 = .ok (.ldc 177, 2) := by decide +kernel
theorem dX7_count_385 : decode cX7_count 385 = .ok (.invokespecial 179, 3) := by decide +kernel
theorem dX7_count_388 : decode cX7_count 388 = .ok (.athrow, 1) := by decide +kernel
set_option maxRecDepth 20000 in
set_option maxHeartbeats 4000000 in
theorem vX7_count_0 {l : Launch} {x : CX} {a0 : Nat} {x1 : Int32} {h : PH} {rc rs n0 : Nat} {Q : Option Value → PH → Prop} {X : String → PH → Prop}
    (K : ((hK h a0).1 = 7) ∧ ∃ b2, (hR h a0 4 = some b2) ∧ ((hK h b2).1 = 3) ∧ ∃ b5, (hR h b2 0 = some b5) ∧ ((x1.toInt = 0 → ((hK h b5).1 = 1) ∧ Q (some (.int (hI h b5 0))) h) ∧ (x1.toInt = 1 → ((hK h b5).1 = 1) ∧ Q (some (.int (hI h b5 1))) h) ∧ (x1.toInt = 2 → ((hK h b5).1 = 1) ∧ Q (some (.int (hI h b5 2))) h) ∧ (x1.toInt = 3 → ((hK h b5).1 = 1) ∧ Q (some (.int (hI h b5 3))) h) ∧ (x1.toInt = 4 → ((hK h b5).1 = 1) ∧ Q (some (.int (hI h b5 4))) h) ∧ (x1.toInt = 5 → ((hK h b5).1 = 1) ∧ Q (some (.int (hI h b5 5))) h) ∧ (x1.toInt = 6 → ((hK h b5).1 = 1) ∧ Q (some (.int (hI h b5 6))) h) ∧ (x1.toInt = 7 → ((hK h b5).1 = 1) ∧ Q (some (.int (hI h b5 7))) h) ∧ (x1.toInt = 8 → ((hK h b5).1 = 1) ∧ Q (some (.int (if (hI h b5 8) = 0 then 0 else 1 : Int32))) h) ∧ (x1.toInt = 9 → ((hK h b5).1 = 1) ∧ ∃ (q18 : Int32 → PH → Prop), CI l x mX1_howMany 0 0 0 [.ref b5, .int 1] h q18 ∧ ∀ (r22 : Int32) (h21 : PH), q18 r22 h21 → Q (some (.int r22)) h21) ∧ (x1.toInt = 10 → ((hK h b5).1 = 1) ∧ ∃ (q23 : Int32 → PH → Prop), CI l x mX1_howMany 0 0 0 [.ref b5, .int 2] h q23 ∧ ∀ (r27 : Int32) (h26 : PH), q23 r27 h26 → Q (some (.int r27)) h26) ∧ (x1.toInt = 11 → ((hK h b5).1 = 1) ∧ Q (some (.int (hI h b5 12))) h) ∧ (x1.toInt = 12 → ((hK h b5).1 = 1) ∧ ∃ (q29 : Int64 → PH → Prop), CJ l x mX1_callsWaiting 1 0 0 [.ref b5] h q29 ∧ ∀ (r33 : Int64) (h32 : PH), q29 r33 h32 → ∃ (q34 : Int32 → PH → Prop), CI l x mJ13_bitCount_95d88 0 0 0 [.long r33] h32 q34 ∧ ∀ (r37 : Int32) (h36 : PH), q34 r37 h36 → Q (some (.int r37)) h36) ∧ (x1.toInt = 13 → ((hK h b5).1 = 1) ∧ ∃ (q38 : Int32 → PH → Prop), CI l x mX1_passedInAll 0 0 0 [.ref b5] h q38 ∧ ∀ (r42 : Int32) (h41 : PH), q38 r42 h41 → Q (some (.int r42)) h41) ∧ (x1.toInt = 14 → ((hK h b5).1 = 1) ∧ ∃ (q43 : Int32 → PH → Prop), CI l x mX1_waitedInAll 0 0 0 [.ref b5] h q43 ∧ ∀ (r47 : Int32) (h46 : PH), q43 r47 h46 → Q (some (.int r47)) h46) ∧ (x1.toInt = 15 → ((hK h b5).1 = 1) ∧ Q (some (.int (if (hI h b5 11) = 0 then 0 else 1 : Int32))) h) ∧ (x1.toInt = 16 → ((hK h b5).1 = 1) ∧ ∃ (q50 : Int32 → PH → Prop), CI l x mX1_worst 0 0 0 [.ref b5] h q50 ∧ ∀ (r54 : Int32) (h53 : PH), q50 r54 h53 → Q (some (.int r54)) h53) ∧ (x1.toInt = 17 → ∃ b55, (hR h a0 3 = some b55) ∧ ((hK h b5).1 = 1) ∧ ((hK h b55).1 = 5) ∧ ∃ (q58 : Int32 → PH → Prop), CI l x mX5_best 6 0 0 [.ref b55, .int (hI h b5 4)] h q58 ∧ ∀ (r62 : Int32) (h61 : PH), q58 r62 h61 → Q (some (.int r62)) h61) ∧ (x1.toInt = 18 → ∃ b63, (hR h a0 3 = some b63) ∧ ((hK h b5).1 = 1) ∧ ((hK h b63).1 = 5) ∧ ∃ (q66 : Int32 → PH → Prop), CI l x mX5_room 5 0 0 [.ref b63, .int (hI h b5 5), .int (hI h b5 4)] h q66 ∧ ∀ (r70 : Int32) (h69 : PH), q66 r70 h69 → Q (some (.int r70)) h69) ∧ (x1.toInt = 19 → ∃ b71, (hR h a0 3 = some b71) ∧ ((hK h b5).1 = 1) ∧ ((hK h b71).1 = 5) ∧ ∃ (q74 : Int32 → PH → Prop), CI l x mX5_missed 5 0 0 [.ref b71, .int (hI h b5 5), .int (hI h b5 4)] h q74 ∧ ∀ (r78 : Int32) (h77 : PH), q74 r78 h77 → Q (some (.int r78)) h77) ∧ (x1.toInt = 20 → ∃ b79, (hR h b2 1 = some b79) ∧ ((hK h b79).1 = 0) ∧ Q (some (.int (hI h b79 2))) h) ∧ (x1.toInt = 21 → Q (some (.int (hI h b2 4))) h) ∧ (x1.toInt = 22 → ∃ b82, (hR h a0 0 = some b82) ∧ ((hK h b82).1 = 4) ∧ Q (some (.int (hI h b82 1))) h) ∧ (x1.toInt = 23 → ∃ b85, (hR h b2 5 = some b85) ∧ ((hK h b85).1 = 100) ∧ (vp_in 0 (hK h b85).2) ∧ Q (some (.int (hI h b85 (Int32.toNatClampNeg 0)))) h) ∧ (x1.toInt = 24 → ∃ b89, (hR h b2 5 = some b89) ∧ ((hK h b89).1 = 100) ∧ (vp_in 1 (hK h b89).2) ∧ Q (some (.int (hI h b89 (Int32.toNatClampNeg 1)))) h) ∧ (x1.toInt = 25 → ∃ b93, (hR h b2 5 = some b93) ∧ ((hK h b93).1 = 100) ∧ (vp_in 2 (hK h b93).2) ∧ Q (some (.int (hI h b93 (Int32.toNatClampNeg 2)))) h) ∧ (x1.toInt = 26 → ((hK h b5).1 = 1) ∧ ∃ (q97 : Int32 → PH → Prop), CI l x mX1_overtaken 1 0 0 [.ref b5] h q97 ∧ ∀ (r101 : Int32) (h100 : PH), q97 r101 h100 → Q (some (.int r101)) h100) ∧ (x1.toInt = 27 → ∃ b102, (hR h a0 3 = some b102) ∧ ((hK h b5).1 = 1) ∧ ((hK h b102).1 = 5) ∧ ∃ (q105 : Int32 → PH → Prop), CI l x mX5_thrift 6 0 0 [.ref b102, .int (hI h b5 4)] h q105 ∧ ∀ (r109 : Int32) (h108 : PH), q105 r109 h108 → Q (some (.int r109)) h108) ∧ (x1.toInt = 28 → ((hK h b5).1 = 1) ∧ ∃ (q110 : UInt32 → PH → Prop), CF l x mX1_workInAll 0 0 0 [.ref b5] h q110 ∧ ∀ (r114 : UInt32) (h113 : PH), q110 r114 h113 → Q (some (.int (FP.f2i r114))) h113) ∧ (x1.toInt = 29 → ∃ (q115 : Int32 → PH → Prop), CI l x mX7_ticksToQuiet 5 0 0 [.ref a0] h q115 ∧ ∀ (r118 : Int32) (h117 : PH), q115 r118 h117 → Q (some (.int r118)) h117) ∧ ((x1.toInt < 0 ∨ 29 < x1.toInt) → ThrowOk x RX7 "java/util/NoSuchElementException" "no such count" ["java/lang/RuntimeException", "java/lang/Exception"] 177 179 ∧ 1 ≤ rc ∧ 6 ≤ rs ∧ X "java/util/NoSuchElementException" h))) :
    Gm l x mX7_count 8 0 [(0, .ref a0), (1, .int x1)] [] h rc rs n0 Q X := by
  refine g_aload_n dX7_count_0 rfl 0 rfl ?_
  obtain ⟨e1, b2, e3, K⟩ := K
  refine g_get (c := 7) (k := 4) (v := .ref b2) dX7_count_1 fc_7 (by decide) (by decide) bw_406 (congrArg pr e3) e1 ?_
  obtain ⟨e4, b5, e6, K⟩ := K
  refine g_get (c := 3) (k := 0) (v := .ref b5) dX7_count_4 fc_3 (by decide) (by decide) bw_378 (congrArg pr e6) e4 ?_
  refine g_astore_n (lv' := [(0, .ref a0), (1, .int x1), (2, .ref b5)]) dX7_count_7 rfl (by decide) rfl ?_
  refine g_iload_n dX7_count_8 rfl 1 rfl ?_
  by_cases e7 : 0 ≤ x1.toInt ∧ x1.toInt ≤ 29
  · have e_or : x1.toInt = 0 ∨ x1.toInt = 1 ∨ x1.toInt = 2 ∨ x1.toInt = 3 ∨ x1.toInt = 4 ∨ x1.toInt = 5 ∨ x1.toInt = 6 ∨ x1.toInt = 7 ∨ x1.toInt = 8 ∨ x1.toInt = 9 ∨ x1.toInt = 10 ∨ x1.toInt = 11 ∨ x1.toInt = 12 ∨ x1.toInt = 13 ∨ x1.toInt = 14 ∨ x1.toInt = 15 ∨ x1.toInt = 16 ∨ x1.toInt = 17 ∨ x1.toInt = 18 ∨ x1.toInt = 19 ∨ x1.toInt = 20 ∨ x1.toInt = 21 ∨ x1.toInt = 22 ∨ x1.toInt = 23 ∨ x1.toInt = 24 ∨ x1.toInt = 25 ∨ x1.toInt = 26 ∨ x1.toInt = 27 ∨ x1.toInt = 28 ∨ x1.toInt = 29 := by omega
    rcases e_or with e_s | e_s | e_s | e_s | e_s | e_s | e_s | e_s | e_s | e_s | e_s | e_s | e_s | e_s | e_s | e_s | e_s | e_s | e_s | e_s | e_s | e_s | e_s | e_s | e_s | e_s | e_s | e_s | e_s | e_s
    · replace K := K.1 e_s
      refine g_tableIn (off := 135) (tgt := 144) dX7_count_9 (by omega) (by omega) (by rw [e_s]; rfl) (by decide) ?_
      refine g_aload_n dX7_count_144 rfl 2 rfl ?_
      obtain ⟨e8, K⟩ := K
      refine g_get (c := 1) (k := 0) (v := .int (hI h b5 0)) dX7_count_145 fc_1 (by decide) (by decide) bw_186 rfl e8 ?_
      exact g_iret dX7_count_148 rfl K
    · replace K := K.2.1 e_s
      refine g_tableIn (off := 140) (tgt := 149) dX7_count_9 (by omega) (by omega) (by rw [e_s]; rfl) (by decide) ?_
      refine g_aload_n dX7_count_149 rfl 2 rfl ?_
      obtain ⟨e9, K⟩ := K
      refine g_get (c := 1) (k := 1) (v := .int (hI h b5 1)) dX7_count_150 fc_1 (by decide) (by decide) bw_189 rfl e9 ?_
      exact g_iret dX7_count_153 rfl K
    · replace K := K.2.2.1 e_s
      refine g_tableIn (off := 145) (tgt := 154) dX7_count_9 (by omega) (by omega) (by rw [e_s]; rfl) (by decide) ?_
      refine g_aload_n dX7_count_154 rfl 2 rfl ?_
      obtain ⟨e10, K⟩ := K
      refine g_get (c := 1) (k := 2) (v := .int (hI h b5 2)) dX7_count_155 fc_1 (by decide) (by decide) bw_194 rfl e10 ?_
      exact g_iret dX7_count_158 rfl K
    · replace K := K.2.2.2.1 e_s
      refine g_tableIn (off := 150) (tgt := 159) dX7_count_9 (by omega) (by omega) (by rw [e_s]; rfl) (by decide) ?_
      refine g_aload_n dX7_count_159 rfl 2 rfl ?_
      obtain ⟨e11, K⟩ := K
      refine g_get (c := 1) (k := 3) (v := .int (hI h b5 3)) dX7_count_160 fc_1 (by decide) (by decide) bw_198 rfl e11 ?_
      exact g_iret dX7_count_163 rfl K
    · replace K := K.2.2.2.2.1 e_s
      refine g_tableIn (off := 155) (tgt := 164) dX7_count_9 (by omega) (by omega) (by rw [e_s]; rfl) (by decide) ?_
      refine g_aload_n dX7_count_164 rfl 2 rfl ?_
      obtain ⟨e12, K⟩ := K
      refine g_get (c := 1) (k := 4) (v := .int (hI h b5 4)) dX7_count_165 fc_1 (by decide) (by decide) bw_203 rfl e12 ?_
      exact g_iret dX7_count_168 rfl K
    · replace K := K.2.2.2.2.2.1 e_s
      refine g_tableIn (off := 160) (tgt := 169) dX7_count_9 (by omega) (by omega) (by rw [e_s]; rfl) (by decide) ?_
      refine g_aload_n dX7_count_169 rfl 2 rfl ?_
      obtain ⟨e13, K⟩ := K
      refine g_get (c := 1) (k := 5) (v := .int (hI h b5 5)) dX7_count_170 fc_1 (by decide) (by decide) bw_207 rfl e13 ?_
      exact g_iret dX7_count_173 rfl K
    · replace K := K.2.2.2.2.2.2.1 e_s
      refine g_tableIn (off := 165) (tgt := 174) dX7_count_9 (by omega) (by omega) (by rw [e_s]; rfl) (by decide) ?_
      refine g_aload_n dX7_count_174 rfl 2 rfl ?_
      obtain ⟨e14, K⟩ := K
      refine g_get (c := 1) (k := 6) (v := .int (hI h b5 6)) dX7_count_175 fc_1 (by decide) (by decide) bw_210 rfl e14 ?_
      exact g_iret dX7_count_178 rfl K
    · replace K := K.2.2.2.2.2.2.2.1 e_s
      refine g_tableIn (off := 170) (tgt := 179) dX7_count_9 (by omega) (by omega) (by rw [e_s]; rfl) (by decide) ?_
      refine g_aload_n dX7_count_179 rfl 2 rfl ?_
      obtain ⟨e15, K⟩ := K
      refine g_get (c := 1) (k := 7) (v := .int (hI h b5 7)) dX7_count_180 fc_1 (by decide) (by decide) bw_213 rfl e15 ?_
      exact g_iret dX7_count_183 rfl K
    · replace K := K.2.2.2.2.2.2.2.2.1 e_s
      refine g_tableIn (off := 175) (tgt := 184) dX7_count_9 (by omega) (by omega) (by rw [e_s]; rfl) (by decide) ?_
      refine g_aload_n dX7_count_184 rfl 2 rfl ?_
      obtain ⟨e16, K⟩ := K
      refine g_get (c := 1) (k := 8) (v := .int (hI h b5 8)) dX7_count_185 fc_1 (by decide) (by decide) bw_215 rfl e16 ?_
      have KJ : Gm l x mX7_count 8 196 [(0, .ref a0), (1, .int x1), (2, .ref b5)] [.int (if (hI h b5 8) = 0 then 0 else 1 : Int32)] h rc rs n0 Q X := by
        exact g_iret dX7_count_196 rfl K
      refine g_if_eq (tgt := 195) dX7_count_188 (by decide) (fun c17 => ?_) (fun c17 => ?_)
      · refine g_iconst (v := 0) dX7_count_195 (by decide) ?_
        first | (simp only [if_pos c17] at KJ; exact KJ) | (simp only [if_pos c17, ite_true, ite_false, eq_self] at KJ; exact KJ) | (simp only [if_pos c17] at KJ ⊢; exact KJ) | exact KJ
      · refine g_iconst (v := 1) dX7_count_191 (by decide) ?_
        refine g_goto (tgt := 196) dX7_count_192 (by decide) ?_
        first | (simp only [if_neg c17] at KJ; exact KJ) | (simp only [if_neg c17, ite_true, ite_false, eq_self] at KJ; exact KJ) | (simp only [if_neg c17] at KJ ⊢; exact KJ) | exact KJ
    · replace K := K.2.2.2.2.2.2.2.2.2.1 e_s
      refine g_tableIn (off := 188) (tgt := 197) dX7_count_9 (by omega) (by omega) (by rw [e_s]; rfl) (by decide) ?_
      refine g_aload_n dX7_count_197 rfl 2 rfl ?_
      refine g_iconst (v := 1) dX7_count_198 (by decide) ?_
      obtain ⟨e20, K⟩ := K
      obtain ⟨q18, C19, K⟩ := K
      refine g_callV (M' := mX1_howMany) (b := b5) (As := [.int 1]) (rest := []) (rc' := rc) (rs' := rs) dX7_count_199 bw_902 bw_903 bw_904 bw_3 bw_905 ⟨by decide +kernel, by decide +kernel, show (parseMethodDescriptor mX1_howMany.1.desc).map (fun d => d.parameters.length) = some 1 by decide +kernel⟩ (by decide) (by decide) (Nat.le_of_ble_eq_true rfl) fc_1 (by decide) rfl e20 C19 (Nat.le_of_eq (Nat.add_zero _)) (Nat.le_of_eq (Nat.add_zero _)) (fun _ _ h => h) ?_
      rintro _ h21 ⟨r22, rfl, K1⟩ -
      replace K := K r22 h21 K1
      show Gm l x mX7_count 8 202 [(0, .ref a0), (1, .int x1), (2, .ref b5)] [.int r22] h21 rc rs n0 Q X
      exact g_iret dX7_count_202 rfl K
    · replace K := K.2.2.2.2.2.2.2.2.2.2.1 e_s
      refine g_tableIn (off := 194) (tgt := 203) dX7_count_9 (by omega) (by omega) (by rw [e_s]; rfl) (by decide) ?_
      refine g_aload_n dX7_count_203 rfl 2 rfl ?_
      refine g_iconst (v := 2) dX7_count_204 (by decide) ?_
      obtain ⟨e25, K⟩ := K
      obtain ⟨q23, C24, K⟩ := K
      refine g_callV (M' := mX1_howMany) (b := b5) (As := [.int 2]) (rest := []) (rc' := rc) (rs' := rs) dX7_count_205 bw_902 bw_903 bw_904 bw_3 bw_905 ⟨by decide +kernel, by decide +kernel, show (parseMethodDescriptor mX1_howMany.1.desc).map (fun d => d.parameters.length) = some 1 by decide +kernel⟩ (by decide) (by decide) (Nat.le_of_ble_eq_true rfl) fc_1 (by decide) rfl e25 C24 (Nat.le_of_eq (Nat.add_zero _)) (Nat.le_of_eq (Nat.add_zero _)) (fun _ _ h => h) ?_
      rintro _ h26 ⟨r27, rfl, K1⟩ -
      replace K := K r27 h26 K1
      show Gm l x mX7_count 8 208 [(0, .ref a0), (1, .int x1), (2, .ref b5)] [.int r27] h26 rc rs n0 Q X
      exact g_iret dX7_count_208 rfl K
    · replace K := K.2.2.2.2.2.2.2.2.2.2.2.1 e_s
      refine g_tableIn (off := 200) (tgt := 209) dX7_count_9 (by omega) (by omega) (by rw [e_s]; rfl) (by decide) ?_
      refine g_aload_n dX7_count_209 rfl 2 rfl ?_
      obtain ⟨e28, K⟩ := K
      refine g_get (c := 1) (k := 12) (v := .int (hI h b5 12)) dX7_count_210 fc_1 (by decide) (by decide) bw_222 rfl e28 ?_
      exact g_iret dX7_count_213 rfl K
    · replace K := K.2.2.2.2.2.2.2.2.2.2.2.2.1 e_s
      refine g_tableIn (off := 205) (tgt := 214) dX7_count_9 (by omega) (by omega) (by rw [e_s]; rfl) (by decide) ?_
      refine g_aload_n dX7_count_214 rfl 2 rfl ?_
      obtain ⟨e31, K⟩ := K
      obtain ⟨q29, C30, K⟩ := K
      refine g_callV (M' := mX1_callsWaiting) (b := b5) (As := []) (rest := []) (rc' := rc) (rs' := rs) dX7_count_215 bw_906 bw_527 bw_528 bw_3 bw_529 ⟨by decide +kernel, by decide +kernel, show (parseMethodDescriptor mX1_callsWaiting.1.desc).map (fun d => d.parameters.length) = some 0 by decide +kernel⟩ (by decide) (by decide) (Nat.le_of_ble_eq_true rfl) fc_1 (by decide) rfl e31 C30 (Nat.le_of_eq (Nat.add_zero _)) (Nat.le_of_eq (Nat.add_zero _)) (fun _ _ h => h) ?_
      rintro _ h32 ⟨r33, rfl, K1⟩ -
      replace K := K r33 h32 K1
      show Gm l x mX7_count 8 218 [(0, .ref a0), (1, .int x1), (2, .ref b5)] [.long r33] h32 rc rs n0 Q X
      obtain ⟨q34, C35, K⟩ := K
      refine g_callS (M' := mJ13_bitCount_95d88) (As := [.long r33]) (rest := []) (rc' := rc) (rs' := rs) dX7_count_218 bw_907 bw_908 bw_20 bw_909 ⟨by decide +kernel, by decide +kernel, show (parseMethodDescriptor mJ13_bitCount_95d88.1.desc).map (fun d => d.parameters.length) = some 1 by decide +kernel⟩ (by decide) (by decide) (Nat.le_of_ble_eq_true rfl) C35 (Nat.le_of_eq (Nat.add_zero _)) (Nat.le_of_eq (Nat.add_zero _)) (fun _ _ h => h) ?_
      rintro _ h36 ⟨r37, rfl, K1⟩ -
      replace K := K r37 h36 K1
      show Gm l x mX7_count 8 221 [(0, .ref a0), (1, .int x1), (2, .ref b5)] [.int r37] h36 rc rs n0 Q X
      exact g_iret dX7_count_221 rfl K
    · replace K := K.2.2.2.2.2.2.2.2.2.2.2.2.2.1 e_s
      refine g_tableIn (off := 213) (tgt := 222) dX7_count_9 (by omega) (by omega) (by rw [e_s]; rfl) (by decide) ?_
      refine g_aload_n dX7_count_222 rfl 2 rfl ?_
      obtain ⟨e40, K⟩ := K
      obtain ⟨q38, C39, K⟩ := K
      refine g_callV (M' := mX1_passedInAll) (b := b5) (As := []) (rest := []) (rc' := rc) (rs' := rs) dX7_count_223 bw_913 bw_914 bw_915 bw_3 bw_916 ⟨by decide +kernel, by decide +kernel, show (parseMethodDescriptor mX1_passedInAll.1.desc).map (fun d => d.parameters.length) = some 0 by decide +kernel⟩ (by decide) (by decide) (Nat.le_of_ble_eq_true rfl) fc_1 (by decide) rfl e40 C39 (Nat.le_of_eq (Nat.add_zero _)) (Nat.le_of_eq (Nat.add_zero _)) (fun _ _ h => h) ?_
      rintro _ h41 ⟨r42, rfl, K1⟩ -
      replace K := K r42 h41 K1
      show Gm l x mX7_count 8 226 [(0, .ref a0), (1, .int x1), (2, .ref b5)] [.int r42] h41 rc rs n0 Q X
      exact g_iret dX7_count_226 rfl K
    · replace K := K.2.2.2.2.2.2.2.2.2.2.2.2.2.2.1 e_s
      refine g_tableIn (off := 218) (tgt := 227) dX7_count_9 (by omega) (by omega) (by rw [e_s]; rfl) (by decide) ?_
      refine g_aload_n dX7_count_227 rfl 2 rfl ?_
      obtain ⟨e45, K⟩ := K
      obtain ⟨q43, C44, K⟩ := K
      refine g_callV (M' := mX1_waitedInAll) (b := b5) (As := []) (rest := []) (rc' := rc) (rs' := rs) dX7_count_228 bw_917 bw_918 bw_919 bw_3 bw_920 ⟨by decide +kernel, by decide +kernel, show (parseMethodDescriptor mX1_waitedInAll.1.desc).map (fun d => d.parameters.length) = some 0 by decide +kernel⟩ (by decide) (by decide) (Nat.le_of_ble_eq_true rfl) fc_1 (by decide) rfl e45 C44 (Nat.le_of_eq (Nat.add_zero _)) (Nat.le_of_eq (Nat.add_zero _)) (fun _ _ h => h) ?_
      rintro _ h46 ⟨r47, rfl, K1⟩ -
      replace K := K r47 h46 K1
      show Gm l x mX7_count 8 231 [(0, .ref a0), (1, .int x1), (2, .ref b5)] [.int r47] h46 rc rs n0 Q X
      exact g_iret dX7_count_231 rfl K
    · replace K := K.2.2.2.2.2.2.2.2.2.2.2.2.2.2.2.1 e_s
      refine g_tableIn (off := 223) (tgt := 232) dX7_count_9 (by omega) (by omega) (by rw [e_s]; rfl) (by decide) ?_
      refine g_aload_n dX7_count_232 rfl 2 rfl ?_
      obtain ⟨e48, K⟩ := K
      refine g_get (c := 1) (k := 11) (v := .int (hI h b5 11)) dX7_count_233 fc_1 (by decide) (by decide) bw_219 rfl e48 ?_
      have KJ : Gm l x mX7_count 8 244 [(0, .ref a0), (1, .int x1), (2, .ref b5)] [.int (if (hI h b5 11) = 0 then 0 else 1 : Int32)] h rc rs n0 Q X := by
        exact g_iret dX7_count_244 rfl K
      refine g_if_eq (tgt := 243) dX7_count_236 (by decide) (fun c49 => ?_) (fun c49 => ?_)
      · refine g_iconst (v := 0) dX7_count_243 (by decide) ?_
        first | (simp only [if_pos c49] at KJ; exact KJ) | (simp only [if_pos c49, ite_true, ite_false, eq_self] at KJ; exact KJ) | (simp only [if_pos c49] at KJ ⊢; exact KJ) | exact KJ
      · refine g_iconst (v := 1) dX7_count_239 (by decide) ?_
        refine g_goto (tgt := 244) dX7_count_240 (by decide) ?_
        first | (simp only [if_neg c49] at KJ; exact KJ) | (simp only [if_neg c49, ite_true, ite_false, eq_self] at KJ; exact KJ) | (simp only [if_neg c49] at KJ ⊢; exact KJ) | exact KJ
    · replace K := K.2.2.2.2.2.2.2.2.2.2.2.2.2.2.2.2.1 e_s
      refine g_tableIn (off := 236) (tgt := 245) dX7_count_9 (by omega) (by omega) (by rw [e_s]; rfl) (by decide) ?_
      refine g_aload_n dX7_count_245 rfl 2 rfl ?_
      obtain ⟨e52, K⟩ := K
      obtain ⟨q50, C51, K⟩ := K
      refine g_callV (M' := mX1_worst) (b := b5) (As := []) (rest := []) (rc' := rc) (rs' := rs) dX7_count_246 bw_921 bw_922 bw_923 bw_3 bw_924 ⟨by decide +kernel, by decide +kernel, show (parseMethodDescriptor mX1_worst.1.desc).map (fun d => d.parameters.length) = some 0 by decide +kernel⟩ (by decide) (by decide) (Nat.le_of_ble_eq_true rfl) fc_1 (by decide) rfl e52 C51 (Nat.le_of_eq (Nat.add_zero _)) (Nat.le_of_eq (Nat.add_zero _)) (fun _ _ h => h) ?_
      rintro _ h53 ⟨r54, rfl, K1⟩ -
      replace K := K r54 h53 K1
      show Gm l x mX7_count 8 249 [(0, .ref a0), (1, .int x1), (2, .ref b5)] [.int r54] h53 rc rs n0 Q X
      exact g_iret dX7_count_249 rfl K
    · replace K := K.2.2.2.2.2.2.2.2.2.2.2.2.2.2.2.2.2.1 e_s
      refine g_tableIn (off := 241) (tgt := 250) dX7_count_9 (by omega) (by omega) (by rw [e_s]; rfl) (by decide) ?_
      refine g_aload_n dX7_count_250 rfl 0 rfl ?_
      obtain ⟨b55, e56, K⟩ := K
      refine g_get (c := 7) (k := 3) (v := .ref b55) dX7_count_251 fc_7 (by decide) (by decide) bw_405 (congrArg pr e56) e1 ?_
      refine g_aload_n dX7_count_254 rfl 2 rfl ?_
      obtain ⟨e57, K⟩ := K
      refine g_get (c := 1) (k := 4) (v := .int (hI h b5 4)) dX7_count_255 fc_1 (by decide) (by decide) bw_203 rfl e57 ?_
      obtain ⟨e60, K⟩ := K
      obtain ⟨q58, C59, K⟩ := K
      refine g_callV (M' := mX5_best) (b := b55) (As := [.int (hI h b5 4)]) (rest := []) (rc' := rc) (rs' := rs) dX7_count_258 bw_925 bw_926 bw_927 bw_6 bw_928 ⟨by decide +kernel, by decide +kernel, show (parseMethodDescriptor mX5_best.1.desc).map (fun d => d.parameters.length) = some 1 by decide +kernel⟩ (by decide) (by decide) (Nat.le_of_ble_eq_true rfl) fc_5 (by decide) rfl e60 C59 (Nat.le_of_eq (Nat.add_zero _)) (Nat.le_of_eq (Nat.add_zero _)) (fun _ _ h => h) ?_
      rintro _ h61 ⟨r62, rfl, K1⟩ -
      replace K := K r62 h61 K1
      show Gm l x mX7_count 8 261 [(0, .ref a0), (1, .int x1), (2, .ref b5)] [.int r62] h61 rc rs n0 Q X
      exact g_iret dX7_count_261 rfl K
    · replace K := K.2.2.2.2.2.2.2.2.2.2.2.2.2.2.2.2.2.2.1 e_s
      refine g_tableIn (off := 253) (tgt := 262) dX7_count_9 (by omega) (by omega) (by rw [e_s]; rfl) (by decide) ?_
      refine g_aload_n dX7_count_262 rfl 0 rfl ?_
      obtain ⟨b63, e64, K⟩ := K
      refine g_get (c := 7) (k := 3) (v := .ref b63) dX7_count_263 fc_7 (by decide) (by decide) bw_405 (congrArg pr e64) e1 ?_
      refine g_aload_n dX7_count_266 rfl 2 rfl ?_
      obtain ⟨e65, K⟩ := K
      refine g_get (c := 1) (k := 5) (v := .int (hI h b5 5)) dX7_count_267 fc_1 (by decide) (by decide) bw_207 rfl e65 ?_
      refine g_aload_n dX7_count_270 rfl 2 rfl ?_
      refine g_get (c := 1) (k := 4) (v := .int (hI h b5 4)) dX7_count_271 fc_1 (by decide) (by decide) bw_203 rfl e65 ?_
      obtain ⟨e68, K⟩ := K
      obtain ⟨q66, C67, K⟩ := K
      refine g_callV (M' := mX5_room) (b := b63) (As := [.int (hI h b5 5), .int (hI h b5 4)]) (rest := []) (rc' := rc) (rs' := rs) dX7_count_274 bw_951 bw_952 bw_953 bw_6 bw_954 ⟨by decide +kernel, by decide +kernel, show (parseMethodDescriptor mX5_room.1.desc).map (fun d => d.parameters.length) = some 2 by decide +kernel⟩ (by decide) (by decide) (Nat.le_of_ble_eq_true rfl) fc_5 (by decide) rfl e68 C67 (Nat.le_of_eq (Nat.add_zero _)) (Nat.le_of_eq (Nat.add_zero _)) (fun _ _ h => h) ?_
      rintro _ h69 ⟨r70, rfl, K1⟩ -
      replace K := K r70 h69 K1
      show Gm l x mX7_count 8 277 [(0, .ref a0), (1, .int x1), (2, .ref b5)] [.int r70] h69 rc rs n0 Q X
      exact g_iret dX7_count_277 rfl K
    · replace K := K.2.2.2.2.2.2.2.2.2.2.2.2.2.2.2.2.2.2.2.1 e_s
      refine g_tableIn (off := 269) (tgt := 278) dX7_count_9 (by omega) (by omega) (by rw [e_s]; rfl) (by decide) ?_
      refine g_aload_n dX7_count_278 rfl 0 rfl ?_
      obtain ⟨b71, e72, K⟩ := K
      refine g_get (c := 7) (k := 3) (v := .ref b71) dX7_count_279 fc_7 (by decide) (by decide) bw_405 (congrArg pr e72) e1 ?_
      refine g_aload_n dX7_count_282 rfl 2 rfl ?_
      obtain ⟨e73, K⟩ := K
      refine g_get (c := 1) (k := 5) (v := .int (hI h b5 5)) dX7_count_283 fc_1 (by decide) (by decide) bw_207 rfl e73 ?_
      refine g_aload_n dX7_count_286 rfl 2 rfl ?_
      refine g_get (c := 1) (k := 4) (v := .int (hI h b5 4)) dX7_count_287 fc_1 (by decide) (by decide) bw_203 rfl e73 ?_
      obtain ⟨e76, K⟩ := K
      obtain ⟨q74, C75, K⟩ := K
      refine g_callV (M' := mX5_missed) (b := b71) (As := [.int (hI h b5 5), .int (hI h b5 4)]) (rest := []) (rc' := rc) (rs' := rs) dX7_count_290 bw_955 bw_956 bw_957 bw_6 bw_958 ⟨by decide +kernel, by decide +kernel, show (parseMethodDescriptor mX5_missed.1.desc).map (fun d => d.parameters.length) = some 2 by decide +kernel⟩ (by decide) (by decide) (Nat.le_of_ble_eq_true rfl) fc_5 (by decide) rfl e76 C75 (Nat.le_of_eq (Nat.add_zero _)) (Nat.le_of_eq (Nat.add_zero _)) (fun _ _ h => h) ?_
      rintro _ h77 ⟨r78, rfl, K1⟩ -
      replace K := K r78 h77 K1
      show Gm l x mX7_count 8 293 [(0, .ref a0), (1, .int x1), (2, .ref b5)] [.int r78] h77 rc rs n0 Q X
      exact g_iret dX7_count_293 rfl K
    · replace K := K.2.2.2.2.2.2.2.2.2.2.2.2.2.2.2.2.2.2.2.2.1 e_s
      refine g_tableIn (off := 285) (tgt := 294) dX7_count_9 (by omega) (by omega) (by rw [e_s]; rfl) (by decide) ?_
      refine g_aload_n dX7_count_294 rfl 0 rfl ?_
      refine g_get (c := 7) (k := 4) (v := .ref b2) dX7_count_295 fc_7 (by decide) (by decide) bw_406 (congrArg pr e3) e1 ?_
      obtain ⟨b79, e80, K⟩ := K
      refine g_get (c := 3) (k := 1) (v := .ref b79) dX7_count_298 fc_3 (by decide) (by decide) bw_380 (congrArg pr e80) e4 ?_
      obtain ⟨e81, K⟩ := K
      refine g_get (c := 0) (k := 2) (v := .int (hI h b79 2)) dX7_count_301 fc_0 (by decide) (by decide) bw_369 rfl e81 ?_
      exact g_iret dX7_count_304 rfl K
    · replace K := K.2.2.2.2.2.2.2.2.2.2.2.2.2.2.2.2.2.2.2.2.2.1 e_s
      refine g_tableIn (off := 296) (tgt := 305) dX7_count_9 (by omega) (by omega) (by rw [e_s]; rfl) (by decide) ?_
      refine g_aload_n dX7_count_305 rfl 0 rfl ?_
      refine g_get (c := 7) (k := 4) (v := .ref b2) dX7_count_306 fc_7 (by decide) (by decide) bw_406 (congrArg pr e3) e1 ?_
      refine g_get (c := 3) (k := 4) (v := .int (hI h b2 4)) dX7_count_309 fc_3 (by decide) (by decide) bw_386 rfl e4 ?_
      exact g_iret dX7_count_312 rfl K
    · replace K := K.2.2.2.2.2.2.2.2.2.2.2.2.2.2.2.2.2.2.2.2.2.2.1 e_s
      refine g_tableIn (off := 304) (tgt := 313) dX7_count_9 (by omega) (by omega) (by rw [e_s]; rfl) (by decide) ?_
      refine g_aload_n dX7_count_313 rfl 0 rfl ?_
      obtain ⟨b82, e83, K⟩ := K
      refine g_get (c := 7) (k := 0) (v := .ref b82) dX7_count_314 fc_7 (by decide) (by decide) bw_402 (congrArg pr e83) e1 ?_
      obtain ⟨e84, K⟩ := K
      refine g_get (c := 4) (k := 1) (v := .int (hI h b82 1)) dX7_count_317 fc_4 (by decide) (by decide) bw_266 rfl e84 ?_
      exact g_iret dX7_count_320 rfl K
    · replace K := K.2.2.2.2.2.2.2.2.2.2.2.2.2.2.2.2.2.2.2.2.2.2.2.1 e_s
      refine g_tableIn (off := 312) (tgt := 321) dX7_count_9 (by omega) (by omega) (by rw [e_s]; rfl) (by decide) ?_
      refine g_aload_n dX7_count_321 rfl 0 rfl ?_
      refine g_get (c := 7) (k := 4) (v := .ref b2) dX7_count_322 fc_7 (by decide) (by decide) bw_406 (congrArg pr e3) e1 ?_
      obtain ⟨b85, e86, K⟩ := K
      refine g_get (c := 3) (k := 5) (v := .ref b85) dX7_count_325 fc_3 (by decide) (by decide) bw_388 (congrArg pr e86) e4 ?_
      refine g_iconst (v := 0) dX7_count_328 (by decide) ?_
      obtain ⟨e87, e88, K⟩ := K
      refine g_iald dX7_count_329 e87 e88 ?_
      exact g_iret dX7_count_330 rfl K
    · replace K := K.2.2.2.2.2.2.2.2.2.2.2.2.2.2.2.2.2.2.2.2.2.2.2.2.1 e_s
      refine g_tableIn (off := 322) (tgt := 331) dX7_count_9 (by omega) (by omega) (by rw [e_s]; rfl) (by decide) ?_
      refine g_aload_n dX7_count_331 rfl 0 rfl ?_
      refine g_get (c := 7) (k := 4) (v := .ref b2) dX7_count_332 fc_7 (by decide) (by decide) bw_406 (congrArg pr e3) e1 ?_
      obtain ⟨b89, e90, K⟩ := K
      refine g_get (c := 3) (k := 5) (v := .ref b89) dX7_count_335 fc_3 (by decide) (by decide) bw_388 (congrArg pr e90) e4 ?_
      refine g_iconst (v := 1) dX7_count_338 (by decide) ?_
      obtain ⟨e91, e92, K⟩ := K
      refine g_iald dX7_count_339 e91 e92 ?_
      exact g_iret dX7_count_340 rfl K
    · replace K := K.2.2.2.2.2.2.2.2.2.2.2.2.2.2.2.2.2.2.2.2.2.2.2.2.2.1 e_s
      refine g_tableIn (off := 332) (tgt := 341) dX7_count_9 (by omega) (by omega) (by rw [e_s]; rfl) (by decide) ?_
      refine g_aload_n dX7_count_341 rfl 0 rfl ?_
      refine g_get (c := 7) (k := 4) (v := .ref b2) dX7_count_342 fc_7 (by decide) (by decide) bw_406 (congrArg pr e3) e1 ?_
      obtain ⟨b93, e94, K⟩ := K
      refine g_get (c := 3) (k := 5) (v := .ref b93) dX7_count_345 fc_3 (by decide) (by decide) bw_388 (congrArg pr e94) e4 ?_
      refine g_iconst (v := 2) dX7_count_348 (by decide) ?_
      obtain ⟨e95, e96, K⟩ := K
      refine g_iald dX7_count_349 e95 e96 ?_
      exact g_iret dX7_count_350 rfl K
    · replace K := K.2.2.2.2.2.2.2.2.2.2.2.2.2.2.2.2.2.2.2.2.2.2.2.2.2.2.1 e_s
      refine g_tableIn (off := 342) (tgt := 351) dX7_count_9 (by omega) (by omega) (by rw [e_s]; rfl) (by decide) ?_
      refine g_aload_n dX7_count_351 rfl 2 rfl ?_
      obtain ⟨e99, K⟩ := K
      obtain ⟨q97, C98, K⟩ := K
      refine g_callV (M' := mX1_overtaken) (b := b5) (As := []) (rest := []) (rc' := rc) (rs' := rs) dX7_count_352 bw_959 bw_960 bw_961 bw_3 bw_962 ⟨by decide +kernel, by decide +kernel, show (parseMethodDescriptor mX1_overtaken.1.desc).map (fun d => d.parameters.length) = some 0 by decide +kernel⟩ (by decide) (by decide) (Nat.le_of_ble_eq_true rfl) fc_1 (by decide) rfl e99 C98 (Nat.le_of_eq (Nat.add_zero _)) (Nat.le_of_eq (Nat.add_zero _)) (fun _ _ h => h) ?_
      rintro _ h100 ⟨r101, rfl, K1⟩ -
      replace K := K r101 h100 K1
      show Gm l x mX7_count 8 355 [(0, .ref a0), (1, .int x1), (2, .ref b5)] [.int r101] h100 rc rs n0 Q X
      exact g_iret dX7_count_355 rfl K
    · replace K := K.2.2.2.2.2.2.2.2.2.2.2.2.2.2.2.2.2.2.2.2.2.2.2.2.2.2.2.1 e_s
      refine g_tableIn (off := 347) (tgt := 356) dX7_count_9 (by omega) (by omega) (by rw [e_s]; rfl) (by decide) ?_
      refine g_aload_n dX7_count_356 rfl 0 rfl ?_
      obtain ⟨b102, e103, K⟩ := K
      refine g_get (c := 7) (k := 3) (v := .ref b102) dX7_count_357 fc_7 (by decide) (by decide) bw_405 (congrArg pr e103) e1 ?_
      refine g_aload_n dX7_count_360 rfl 2 rfl ?_
      obtain ⟨e104, K⟩ := K
      refine g_get (c := 1) (k := 4) (v := .int (hI h b5 4)) dX7_count_361 fc_1 (by decide) (by decide) bw_203 rfl e104 ?_
      obtain ⟨e107, K⟩ := K
      obtain ⟨q105, C106, K⟩ := K
      refine g_callV (M' := mX5_thrift) (b := b102) (As := [.int (hI h b5 4)]) (rest := []) (rc' := rc) (rs' := rs) dX7_count_364 bw_966 bw_967 bw_968 bw_6 bw_969 ⟨by decide +kernel, by decide +kernel, show (parseMethodDescriptor mX5_thrift.1.desc).map (fun d => d.parameters.length) = some 1 by decide +kernel⟩ (by decide) (by decide) (Nat.le_of_ble_eq_true rfl) fc_5 (by decide) rfl e107 C106 (Nat.le_of_eq (Nat.add_zero _)) (Nat.le_of_eq (Nat.add_zero _)) (fun _ _ h => h) ?_
      rintro _ h108 ⟨r109, rfl, K1⟩ -
      replace K := K r109 h108 K1
      show Gm l x mX7_count 8 367 [(0, .ref a0), (1, .int x1), (2, .ref b5)] [.int r109] h108 rc rs n0 Q X
      exact g_iret dX7_count_367 rfl K
    · replace K := K.2.2.2.2.2.2.2.2.2.2.2.2.2.2.2.2.2.2.2.2.2.2.2.2.2.2.2.2.1 e_s
      refine g_tableIn (off := 359) (tgt := 368) dX7_count_9 (by omega) (by omega) (by rw [e_s]; rfl) (by decide) ?_
      refine g_aload_n dX7_count_368 rfl 2 rfl ?_
      obtain ⟨e112, K⟩ := K
      obtain ⟨q110, C111, K⟩ := K
      refine g_callV (M' := mX1_workInAll) (b := b5) (As := []) (rest := []) (rc' := rc) (rs' := rs) dX7_count_369 bw_970 bw_948 bw_949 bw_3 bw_950 ⟨by decide +kernel, by decide +kernel, show (parseMethodDescriptor mX1_workInAll.1.desc).map (fun d => d.parameters.length) = some 0 by decide +kernel⟩ (by decide) (by decide) (Nat.le_of_ble_eq_true rfl) fc_1 (by decide) rfl e112 C111 (Nat.le_of_eq (Nat.add_zero _)) (Nat.le_of_eq (Nat.add_zero _)) (fun _ _ h => h) ?_
      rintro _ h113 ⟨r114, rfl, K1⟩ -
      replace K := K r114 h113 K1
      show Gm l x mX7_count 8 372 [(0, .ref a0), (1, .int x1), (2, .ref b5)] [.float r114] h113 rc rs n0 Q X
      refine g_f2i dX7_count_372 ?_
      exact g_iret dX7_count_373 rfl K
    · replace K := K.2.2.2.2.2.2.2.2.2.2.2.2.2.2.2.2.2.2.2.2.2.2.2.2.2.2.2.2.2.1 e_s
      refine g_tableIn (off := 365) (tgt := 374) dX7_count_9 (by omega) (by omega) (by rw [e_s]; rfl) (by decide) ?_
      refine g_aload_n dX7_count_374 rfl 0 rfl ?_
      obtain ⟨q115, C116, K⟩ := K
      refine g_callV (M' := mX7_ticksToQuiet) (b := a0) (As := []) (rest := []) (rc' := rc) (rs' := rs) dX7_count_375 bw_971 bw_973 bs_32 bw_1 bw_974 ⟨by decide +kernel, by decide +kernel, show (parseMethodDescriptor mX7_ticksToQuiet.1.desc).map (fun d => d.parameters.length) = some 0 by decide +kernel⟩ (by decide) (by decide) (Nat.le_of_ble_eq_true rfl) fc_7 (by decide) rfl e1 C116 (Nat.le_of_eq (Nat.add_zero _)) (Nat.le_of_eq (Nat.add_zero _)) (fun _ _ h => h) ?_
      rintro _ h117 ⟨r118, rfl, K1⟩ -
      replace K := K r118 h117 K1
      show Gm l x mX7_count 8 378 [(0, .ref a0), (1, .int x1), (2, .ref b5)] [.int r118] h117 rc rs n0 Q X
      exact g_iret dX7_count_378 rfl K
  · replace K := K.2.2.2.2.2.2.2.2.2.2.2.2.2.2.2.2.2.2.2.2.2.2.2.2.2.2.2.2.2.2 (by omega)
    refine g_tableOut (tgt := 379) dX7_count_9 (by omega) (by decide) ?_
    exact g_throw (cls := "java/util/NoSuchElementException") (text := "no such count") (names := ["java/lang/RuntimeException", "java/lang/Exception"]) (by decide) (by decide) bw_977 bw_22 K.1.1 K.1.2 dX7_count_379 dX7_count_382 dX7_count_383 dX7_count_385 dX7_count_388 (by decide) (Nat.le_of_ble_eq_true rfl) K.2.1 K.2.2.1 K.2.2.2
theorem dX7_car_0 : decode cX7_car 0 = .ok (.aload_n 0, 1) := by decide +kernel
theorem dX7_car_1 : decode cX7_car 1 = .ok (.getfield 37, 3) := by decide +kernel
theorem dX7_car_4 : decode cX7_car 4 = .ok (.getfield 81, 3) := by decide +kernel
theorem dX7_car_7 : decode cX7_car 7 = .ok (.astore_n 3, 1) := by decide +kernel
theorem dX7_car_8 : decode cX7_car 8 = .ok (.iload_n 1, 1) := by decide +kernel
theorem dX7_car_9 : decode cX7_car 9 = .ok (.ifCond .lt 11, 3) := by decide +kernel
theorem dX7_car_12 : decode cX7_car 12 = .ok (.iload_n 1, 1) := by decide +kernel
theorem dX7_car_13 : decode cX7_car 13 = .ok (.aload_n 3, 1) := by decide +kernel
theorem dX7_car_14 : decode cX7_car 14 = .ok (.getfield 87, 3) := by decide +kernel
theorem dX7_car_17 : decode cX7_car 17 = .ok (.if_icmp .lt 13, 3) := by decide +kernel
theorem dX7_car_20 : decode cX7_car 20 = .ok (.new 175, 3) := by decide +kernel
theorem dX7_car_23 : decode cX7_car 23 = .ok (.dup, 1) := by decide +kernel
theorem dX7_car_24 : decode cX7_car 24 = .ok (.ldc 190, 2) := by decide +kernel
theorem dX7_car_26 : decode cX7_car 26 = .ok (.invokespecial 179, 3) := by decide +kernel
theorem dX7_car_29 : decode cX7_car 29 = .ok (.athrow, 1) := by decide +kernel
theorem dX7_car_30 : decode cX7_car 30 = .ok (.aload_n 3, 1) := by decide +kernel
theorem dX7_car_31 : decode cX7_car 31 = .ok (.getfield 192, 3) := by decide +kernel
theorem dX7_car_34 : decode cX7_car 34 = .ok (.iload_n 1, 1) := by decide +kernel
theorem dX7_car_35 : decode cX7_car 35 = .ok (.aaload, 1) := by decide +kernel
theorem dX7_car_36 : decode cX7_car 36 = .ok (.astore 4, 2) := by decide +kernel
theorem dX7_car_38 : decode cX7_car 38 = .ok (.iload_n 2, 1) := by decide +kernel
theorem dX7_car_39 : decode cX7_car 39 = .ok (.tableswitch 128 0 9 #[53, 59, 65, 71, 77, 83, 89, 95, 109, 119], 53) := by decide +kernel
theorem dX7_car_92 : decode cX7_car 92 = .ok (.aload 4, 2) := by decide +kernel
theorem dX7_car_94 : decode cX7_car 94 = .ok (.getfield 196, 3) := by decide +kernel
theorem dX7_car_97 : decode cX7_car 97 = .ok (.ireturn, 1) := by decide +kernel
theorem dX7_car_98 : decode cX7_car 98 = .ok (.aload 4, 2) := by decide +kernel
theorem dX7_car_100 : decode cX7_car 100 = .ok (.getfield 201, 3) := by decide +kernel
theorem dX7_car_103 : decode cX7_car 103 = .ok (.ireturn, 1) := by decide +kernel
theorem dX7_car_104 : decode cX7_car 104 = .ok (.aload 4, 2) := by decide +kernel
theorem dX7_car_106 : decode cX7_car 106 = .ok (.getfield 204, 3) := by decide +kernel
theorem dX7_car_109 : decode cX7_car 109 = .ok (.ireturn, 1) := by decide +kernel
theorem dX7_car_110 : decode cX7_car 110 = .ok (.aload 4, 2) := by decide +kernel
theorem dX7_car_112 : decode cX7_car 112 = .ok (.getfield 207, 3) := by decide +kernel
theorem dX7_car_115 : decode cX7_car 115 = .ok (.ireturn, 1) := by decide +kernel
theorem dX7_car_116 : decode cX7_car 116 = .ok (.aload 4, 2) := by decide +kernel
theorem dX7_car_118 : decode cX7_car 118 = .ok (.getfield 210, 3) := by decide +kernel
theorem dX7_car_121 : decode cX7_car 121 = .ok (.ireturn, 1) := by decide +kernel
theorem dX7_car_122 : decode cX7_car 122 = .ok (.aload 4, 2) := by decide +kernel
theorem dX7_car_124 : decode cX7_car 124 = .ok (.getfield 213, 3) := by decide +kernel
theorem dX7_car_127 : decode cX7_car 127 = .ok (.ireturn, 1) := by decide +kernel
theorem dX7_car_128 : decode cX7_car 128 = .ok (.aload 4, 2) := by decide +kernel
theorem dX7_car_130 : decode cX7_car 130 = .ok (.getfield 216, 3) := by decide +kernel
theorem dX7_car_133 : decode cX7_car 133 = .ok (.ireturn, 1) := by decide +kernel
theorem dX7_car_134 : decode cX7_car 134 = .ok (.aload 4, 2) := by decide +kernel
theorem dX7_car_136 : decode cX7_car 136 = .ok (.getfield 219, 3) := by decide +kernel
theorem dX7_car_139 : decode cX7_car 139 = .ok (.ifCond .eq 7, 3) := by decide +kernel
theorem dX7_car_142 : decode cX7_car 142 = .ok (.iconst 1, 1) := by decide +kernel
theorem dX7_car_143 : decode cX7_car 143 = .ok (.goto 4, 3) := by decide +kernel
theorem dX7_car_146 : decode cX7_car 146 = .ok (.iconst 0, 1) := by decide +kernel
theorem dX7_car_147 : decode cX7_car 147 = .ok (.ireturn, 1) := by decide +kernel
theorem dX7_car_148 : decode cX7_car 148 = .ok (.aload 4, 2) := by decide +kernel
theorem dX7_car_150 : decode cX7_car 150 = .ok (.aload_n 3, 1) := by decide +kernel
theorem dX7_car_151 : decode cX7_car 151 = .ok (.getfield 84, 3) := by decide +kernel
theorem dX7_car_154 : decode cX7_car 154 = .ok (.invokevirtual 222, 3) := by decide +kernel
theorem dX7_car_157 : decode cX7_car 157 = .ok (.ireturn, 1) := by decide +kernel
theorem dX7_car_158 : decode cX7_car 158 = .ok (.aload 4, 2) := by decide +kernel
theorem dX7_car_160 : decode cX7_car 160 = .ok (.getfield 225, 3) := by decide +kernel
theorem dX7_car_163 : decode cX7_car 163 = .ok (.invokestatic 229, 3) := by decide +kernel
theorem dX7_car_166 : decode cX7_car 166 = .ok (.ireturn, 1) := by decide +kernel
theorem dX7_car_167 : decode cX7_car 167 = .ok (.new 175, 3) := by decide +kernel
theorem dX7_car_170 : decode cX7_car 170 = .ok (.dup, 1) := by decide +kernel
theorem dX7_car_171 : decode cX7_car 171 = .ok (.ldc 233, 2) := by decide +kernel
theorem dX7_car_173 : decode cX7_car 173 = .ok (.invokespecial 179, 3) := by decide +kernel
theorem dX7_car_176 : decode cX7_car 176 = .ok (.athrow, 1) := by decide +kernel
set_option maxRecDepth 20000 in
set_option maxHeartbeats 4000000 in
theorem vX7_car_0 {l : Launch} {x : CX} {a0 : Nat} {x1 : Int32} {x2 : Int32} {h : PH} {rc rs n0 : Nat} {Q : Option Value → PH → Prop} {X : String → PH → Prop}
    (K : ((hK h a0).1 = 7) ∧ ∃ b2, (hR h a0 4 = some b2) ∧ ((hK h b2).1 = 3) ∧ ∃ b5, (hR h b2 0 = some b5) ∧ ((x1 < 0 → ThrowOk x RX7 "java/util/NoSuchElementException" "no such car" ["java/lang/RuntimeException", "java/lang/Exception"] 190 179 ∧ 1 ≤ rc ∧ 6 ≤ rs ∧ X "java/util/NoSuchElementException" h) ∧ (¬ x1 < 0 → ((hK h b5).1 = 1) ∧ ((x1 < (hI h b5 1) → ∃ b11, (hR h b5 13 = some b11) ∧ ((hK h b11).1 = 105) ∧ (vp_in x1 (hK h b11).2) ∧ ∃ b15, (hR h b11 x1.toNatClampNeg = some b15) ∧ ((x2.toInt = 0 → ((hK h b15).1 = 2) ∧ Q (some (.int (hI h b15 0))) h) ∧ (x2.toInt = 1 → ((hK h b15).1 = 2) ∧ Q (some (.int (hI h b15 2))) h) ∧ (x2.toInt = 2 → ((hK h b15).1 = 2) ∧ Q (some (.int (hI h b15 1))) h) ∧ (x2.toInt = 3 → ((hK h b15).1 = 2) ∧ Q (some (.int (hI h b15 3))) h) ∧ (x2.toInt = 4 → ((hK h b15).1 = 2) ∧ Q (some (.int (hI h b15 4))) h) ∧ (x2.toInt = 5 → ((hK h b15).1 = 2) ∧ Q (some (.int (hI h b15 5))) h) ∧ (x2.toInt = 6 → ((hK h b15).1 = 2) ∧ Q (some (.int (hI h b15 9))) h) ∧ (x2.toInt = 7 → ((hK h b15).1 = 2) ∧ Q (some (.int (if (hI h b15 6) = 0 then 0 else 1 : Int32))) h) ∧ (x2.toInt = 8 → ((hK h b15).1 = 2) ∧ ∃ (q27 : Int32 → PH → Prop), CI l x mX2_stopFloors 0 0 0 [.ref b15, .int (hI h b5 0)] h q27 ∧ ∀ (r31 : Int32) (h30 : PH), q27 r31 h30 → Q (some (.int r31)) h30) ∧ (x2.toInt = 9 → ((hK h b15).1 = 2) ∧ ∃ (q33 : Int32 → PH → Prop), CI l x mX7_bitsOf 0 0 0 [.float (hF h b15 7)] h q33 ∧ ∀ (r36 : Int32) (h35 : PH), q33 r36 h35 → Q (some (.int r36)) h35) ∧ ((x2.toInt < 0 ∨ 9 < x2.toInt) → ThrowOk x RX7 "java/util/NoSuchElementException" "no such what of a car" ["java/lang/RuntimeException", "java/lang/Exception"] 233 179 ∧ 1 ≤ rc ∧ 6 ≤ rs ∧ X "java/util/NoSuchElementException" h))) ∧ (¬ x1 < (hI h b5 1) → ThrowOk x RX7 "java/util/NoSuchElementException" "no such car" ["java/lang/RuntimeException", "java/lang/Exception"] 190 179 ∧ 1 ≤ rc ∧ 6 ≤ rs ∧ X "java/util/NoSuchElementException" h))))) :
    Gm l x mX7_car 8 0 [(0, .ref a0), (1, .int x1), (2, .int x2)] [] h rc rs n0 Q X := by
  refine g_aload_n dX7_car_0 rfl 0 rfl ?_
  obtain ⟨e1, b2, e3, K⟩ := K
  refine g_get (c := 7) (k := 4) (v := .ref b2) dX7_car_1 fc_7 (by decide) (by decide) bw_406 (congrArg pr e3) e1 ?_
  obtain ⟨e4, b5, e6, K⟩ := K
  refine g_get (c := 3) (k := 0) (v := .ref b5) dX7_car_4 fc_3 (by decide) (by decide) bw_378 (congrArg pr e6) e4 ?_
  refine g_astore_n (lv' := [(0, .ref a0), (1, .int x1), (2, .int x2), (3, .ref b5)]) dX7_car_7 rfl (by decide) rfl ?_
  refine g_iload_n dX7_car_8 rfl 1 rfl ?_
  refine g_if_lt (tgt := 20) dX7_car_9 (by decide) (fun c7 => ?_) (fun c7 => ?_)
  · replace K := K.1 c7
    exact g_throw (cls := "java/util/NoSuchElementException") (text := "no such car") (names := ["java/lang/RuntimeException", "java/lang/Exception"]) (by decide) (by decide) bw_977 bw_22 K.1.1 K.1.2 dX7_car_20 dX7_car_23 dX7_car_24 dX7_car_26 dX7_car_29 (by decide) (Nat.le_of_ble_eq_true rfl) K.2.1 K.2.2.1 K.2.2.2
  · replace K := K.2 c7
    refine g_iload_n dX7_car_12 rfl 1 rfl ?_
    refine g_aload_n dX7_car_13 rfl 3 rfl ?_
    obtain ⟨e9, K⟩ := K
    refine g_get (c := 1) (k := 1) (v := .int (hI h b5 1)) dX7_car_14 fc_1 (by decide) (by decide) bw_189 rfl e9 ?_
    refine g_icmp_lt (tgt := 30) dX7_car_17 (by decide) (fun c10 => ?_) (fun c10 => ?_)
    · replace K := K.1 c10
      refine g_aload_n dX7_car_30 rfl 3 rfl ?_
      obtain ⟨b11, e12, K⟩ := K
      refine g_get (c := 1) (k := 13) (v := .ref b11) dX7_car_31 fc_1 (by decide) (by decide) bw_224 (congrArg pr e12) e9 ?_
      refine g_iload_n dX7_car_34 rfl 1 rfl ?_
      obtain ⟨e13, e14, b15, e16, K⟩ := K
      refine g_aald (t := 5) (v := .ref b15) dX7_car_35 (Or.inl rfl) e13 e14 (congrArg pr e16) ?_
      refine g_astore (lv' := [(0, .ref a0), (1, .int x1), (2, .int x2), (3, .ref b5), (4, .ref b15)]) dX7_car_36 (by decide) rfl ?_
      refine g_iload_n dX7_car_38 rfl 2 rfl ?_
      by_cases e17 : 0 ≤ x2.toInt ∧ x2.toInt ≤ 9
      · have e_or : x2.toInt = 0 ∨ x2.toInt = 1 ∨ x2.toInt = 2 ∨ x2.toInt = 3 ∨ x2.toInt = 4 ∨ x2.toInt = 5 ∨ x2.toInt = 6 ∨ x2.toInt = 7 ∨ x2.toInt = 8 ∨ x2.toInt = 9 := by omega
        rcases e_or with e_s | e_s | e_s | e_s | e_s | e_s | e_s | e_s | e_s | e_s
        · replace K := K.1 e_s
          refine g_tableIn (off := 53) (tgt := 92) dX7_car_39 (by omega) (by omega) (by rw [e_s]; rfl) (by decide) ?_
          refine g_aload dX7_car_92 4 rfl ?_
          obtain ⟨e18, K⟩ := K
          refine g_get (c := 2) (k := 0) (v := .int (hI h b15 0)) dX7_car_94 fc_2 (by decide) (by decide) bw_54 rfl e18 ?_
          exact g_iret dX7_car_97 rfl K
        · replace K := K.2.1 e_s
          refine g_tableIn (off := 59) (tgt := 98) dX7_car_39 (by omega) (by omega) (by rw [e_s]; rfl) (by decide) ?_
          refine g_aload dX7_car_98 4 rfl ?_
          obtain ⟨e19, K⟩ := K
          refine g_get (c := 2) (k := 2) (v := .int (hI h b15 2)) dX7_car_100 fc_2 (by decide) (by decide) bw_60 rfl e19 ?_
          exact g_iret dX7_car_103 rfl K
        · replace K := K.2.2.1 e_s
          refine g_tableIn (off := 65) (tgt := 104) dX7_car_39 (by omega) (by omega) (by rw [e_s]; rfl) (by decide) ?_
          refine g_aload dX7_car_104 4 rfl ?_
          obtain ⟨e20, K⟩ := K
          refine g_get (c := 2) (k := 1) (v := .int (hI h b15 1)) dX7_car_106 fc_2 (by decide) (by decide) bw_56 rfl e20 ?_
          exact g_iret dX7_car_109 rfl K
        · replace K := K.2.2.2.1 e_s
          refine g_tableIn (off := 71) (tgt := 110) dX7_car_39 (by omega) (by omega) (by rw [e_s]; rfl) (by decide) ?_
          refine g_aload dX7_car_110 4 rfl ?_
          obtain ⟨e21, K⟩ := K
          refine g_get (c := 2) (k := 3) (v := .int (hI h b15 3)) dX7_car_112 fc_2 (by decide) (by decide) bw_63 rfl e21 ?_
          exact g_iret dX7_car_115 rfl K
        · replace K := K.2.2.2.2.1 e_s
          refine g_tableIn (off := 77) (tgt := 116) dX7_car_39 (by omega) (by omega) (by rw [e_s]; rfl) (by decide) ?_
          refine g_aload dX7_car_116 4 rfl ?_
          obtain ⟨e22, K⟩ := K
          refine g_get (c := 2) (k := 4) (v := .int (hI h b15 4)) dX7_car_118 fc_2 (by decide) (by decide) bw_67 rfl e22 ?_
          exact g_iret dX7_car_121 rfl K
        · replace K := K.2.2.2.2.2.1 e_s
          refine g_tableIn (off := 83) (tgt := 122) dX7_car_39 (by omega) (by omega) (by rw [e_s]; rfl) (by decide) ?_
          refine g_aload dX7_car_122 4 rfl ?_
          obtain ⟨e23, K⟩ := K
          refine g_get (c := 2) (k := 5) (v := .int (hI h b15 5)) dX7_car_124 fc_2 (by decide) (by decide) bw_70 rfl e23 ?_
          exact g_iret dX7_car_127 rfl K
        · replace K := K.2.2.2.2.2.2.1 e_s
          refine g_tableIn (off := 89) (tgt := 128) dX7_car_39 (by omega) (by omega) (by rw [e_s]; rfl) (by decide) ?_
          refine g_aload dX7_car_128 4 rfl ?_
          obtain ⟨e24, K⟩ := K
          refine g_get (c := 2) (k := 9) (v := .int (hI h b15 9)) dX7_car_130 fc_2 (by decide) (by decide) bw_82 rfl e24 ?_
          exact g_iret dX7_car_133 rfl K
        · replace K := K.2.2.2.2.2.2.2.1 e_s
          refine g_tableIn (off := 95) (tgt := 134) dX7_car_39 (by omega) (by omega) (by rw [e_s]; rfl) (by decide) ?_
          refine g_aload dX7_car_134 4 rfl ?_
          obtain ⟨e25, K⟩ := K
          refine g_get (c := 2) (k := 6) (v := .int (hI h b15 6)) dX7_car_136 fc_2 (by decide) (by decide) bw_73 rfl e25 ?_
          have KJ : Gm l x mX7_car 8 147 [(0, .ref a0), (1, .int x1), (2, .int x2), (3, .ref b5), (4, .ref b15)] [.int (if (hI h b15 6) = 0 then 0 else 1 : Int32)] h rc rs n0 Q X := by
            exact g_iret dX7_car_147 rfl K
          refine g_if_eq (tgt := 146) dX7_car_139 (by decide) (fun c26 => ?_) (fun c26 => ?_)
          · refine g_iconst (v := 0) dX7_car_146 (by decide) ?_
            first | (simp only [if_pos c26] at KJ; exact KJ) | (simp only [if_pos c26, ite_true, ite_false, eq_self] at KJ; exact KJ) | (simp only [if_pos c26] at KJ ⊢; exact KJ) | exact KJ
          · refine g_iconst (v := 1) dX7_car_142 (by decide) ?_
            refine g_goto (tgt := 147) dX7_car_143 (by decide) ?_
            first | (simp only [if_neg c26] at KJ; exact KJ) | (simp only [if_neg c26, ite_true, ite_false, eq_self] at KJ; exact KJ) | (simp only [if_neg c26] at KJ ⊢; exact KJ) | exact KJ
        · replace K := K.2.2.2.2.2.2.2.2.1 e_s
          refine g_tableIn (off := 109) (tgt := 148) dX7_car_39 (by omega) (by omega) (by rw [e_s]; rfl) (by decide) ?_
          refine g_aload dX7_car_148 4 rfl ?_
          refine g_aload_n dX7_car_150 rfl 3 rfl ?_
          refine g_get (c := 1) (k := 0) (v := .int (hI h b5 0)) dX7_car_151 fc_1 (by decide) (by decide) bw_186 rfl e9 ?_
          obtain ⟨e29, K⟩ := K
          obtain ⟨q27, C28, K⟩ := K
          refine g_callV (M' := mX2_stopFloors) (b := b15) (As := [.int (hI h b5 0)]) (rest := []) (rc' := rc) (rs' := rs) dX7_car_154 bw_1001 bw_1002 bw_1003 bw_4 bw_1004 ⟨by decide +kernel, by decide +kernel, show (parseMethodDescriptor mX2_stopFloors.1.desc).map (fun d => d.parameters.length) = some 1 by decide +kernel⟩ (by decide) (by decide) (Nat.le_of_ble_eq_true rfl) fc_2 (by decide) rfl e29 C28 (Nat.le_of_eq (Nat.add_zero _)) (Nat.le_of_eq (Nat.add_zero _)) (fun _ _ h => h) ?_
          rintro _ h30 ⟨r31, rfl, K1⟩ -
          replace K := K r31 h30 K1
          show Gm l x mX7_car 8 157 [(0, .ref a0), (1, .int x1), (2, .int x2), (3, .ref b5), (4, .ref b15)] [.int r31] h30 rc rs n0 Q X
          exact g_iret dX7_car_157 rfl K
        · replace K := K.2.2.2.2.2.2.2.2.2.1 e_s
          refine g_tableIn (off := 119) (tgt := 158) dX7_car_39 (by omega) (by omega) (by rw [e_s]; rfl) (by decide) ?_
          refine g_aload dX7_car_158 4 rfl ?_
          obtain ⟨e32, K⟩ := K
          refine g_get (c := 2) (k := 7) (v := .float (hF h b15 7)) dX7_car_160 fc_2 (by decide) (by decide) bw_77 rfl e32 ?_
          obtain ⟨q33, C34, K⟩ := K
          refine g_callS (M' := mX7_bitsOf) (As := [.float (hF h b15 7)]) (rest := []) (rc' := rc) (rs' := rs) dX7_car_163 bw_1005 bw_1006 bw_1 bw_1007 ⟨by decide +kernel, by decide +kernel, show (parseMethodDescriptor mX7_bitsOf.1.desc).map (fun d => d.parameters.length) = some 1 by decide +kernel⟩ (by decide) (by decide) (Nat.le_of_ble_eq_true rfl) C34 (Nat.le_of_eq (Nat.add_zero _)) (Nat.le_of_eq (Nat.add_zero _)) (fun _ _ h => h) ?_
          rintro _ h35 ⟨r36, rfl, K1⟩ -
          replace K := K r36 h35 K1
          show Gm l x mX7_car 8 166 [(0, .ref a0), (1, .int x1), (2, .int x2), (3, .ref b5), (4, .ref b15)] [.int r36] h35 rc rs n0 Q X
          exact g_iret dX7_car_166 rfl K
      · replace K := K.2.2.2.2.2.2.2.2.2.2 (by omega)
        refine g_tableOut (tgt := 167) dX7_car_39 (by omega) (by decide) ?_
        exact g_throw (cls := "java/util/NoSuchElementException") (text := "no such what of a car") (names := ["java/lang/RuntimeException", "java/lang/Exception"]) (by decide) (by decide) bw_977 bw_22 K.1.1 K.1.2 dX7_car_167 dX7_car_170 dX7_car_171 dX7_car_173 dX7_car_176 (by decide) (Nat.le_of_ble_eq_true rfl) K.2.1 K.2.2.1 K.2.2.2
    · replace K := K.2 c10
      exact g_throw (cls := "java/util/NoSuchElementException") (text := "no such car") (names := ["java/lang/RuntimeException", "java/lang/Exception"]) (by decide) (by decide) bw_977 bw_22 K.1.1 K.1.2 dX7_car_20 dX7_car_23 dX7_car_24 dX7_car_26 dX7_car_29 (by decide) (Nat.le_of_ble_eq_true rfl) K.2.1 K.2.2.1 K.2.2.2
theorem dX7_rider_0 : decode cX7_rider 0 = .ok (.aload_n 0, 1) := by decide +kernel
theorem dX7_rider_1 : decode cX7_rider 1 = .ok (.getfield 37, 3) := by decide +kernel
theorem dX7_rider_4 : decode cX7_rider 4 = .ok (.getfield 81, 3) := by decide +kernel
theorem dX7_rider_7 : decode cX7_rider 7 = .ok (.astore_n 3, 1) := by decide +kernel
theorem dX7_rider_8 : decode cX7_rider 8 = .ok (.iload_n 1, 1) := by decide +kernel
theorem dX7_rider_9 : decode cX7_rider 9 = .ok (.ifCond .lt 11, 3) := by decide +kernel
theorem dX7_rider_12 : decode cX7_rider 12 = .ok (.iload_n 1, 1) := by decide +kernel
theorem dX7_rider_13 : decode cX7_rider 13 = .ok (.aload_n 3, 1) := by decide +kernel
theorem dX7_rider_14 : decode cX7_rider 14 = .ok (.getfield 90, 3) := by decide +kernel
theorem dX7_rider_17 : decode cX7_rider 17 = .ok (.if_icmp .lt 13, 3) := by decide +kernel
theorem dX7_rider_20 : decode cX7_rider 20 = .ok (.new 175, 3) := by decide +kernel
theorem dX7_rider_23 : decode cX7_rider 23 = .ok (.dup, 1) := by decide +kernel
theorem dX7_rider_24 : decode cX7_rider 24 = .ok (.ldc 235, 2) := by decide +kernel
theorem dX7_rider_26 : decode cX7_rider 26 = .ok (.invokespecial 179, 3) := by decide +kernel
theorem dX7_rider_29 : decode cX7_rider 29 = .ok (.athrow, 1) := by decide +kernel
theorem dX7_rider_30 : decode cX7_rider 30 = .ok (.aload_n 3, 1) := by decide +kernel
theorem dX7_rider_31 : decode cX7_rider 31 = .ok (.getfield 237, 3) := by decide +kernel
theorem dX7_rider_34 : decode cX7_rider 34 = .ok (.iload_n 1, 1) := by decide +kernel
theorem dX7_rider_35 : decode cX7_rider 35 = .ok (.aaload, 1) := by decide +kernel
theorem dX7_rider_36 : decode cX7_rider 36 = .ok (.astore 4, 2) := by decide +kernel
theorem dX7_rider_38 : decode cX7_rider 38 = .ok (.iload_n 2, 1) := by decide +kernel
theorem dX7_rider_39 : decode cX7_rider 39 = .ok (.tableswitch 93 0 7 #[45, 51, 57, 63, 69, 75, 81, 87], 45) := by decide +kernel
theorem dX7_rider_84 : decode cX7_rider 84 = .ok (.aload 4, 2) := by decide +kernel
theorem dX7_rider_86 : decode cX7_rider 86 = .ok (.getfield 241, 3) := by decide +kernel
theorem dX7_rider_89 : decode cX7_rider 89 = .ok (.ireturn, 1) := by decide +kernel
theorem dX7_rider_90 : decode cX7_rider 90 = .ok (.aload 4, 2) := by decide +kernel
theorem dX7_rider_92 : decode cX7_rider 92 = .ok (.getfield 244, 3) := by decide +kernel
theorem dX7_rider_95 : decode cX7_rider 95 = .ok (.ireturn, 1) := by decide +kernel
theorem dX7_rider_96 : decode cX7_rider 96 = .ok (.aload 4, 2) := by decide +kernel
theorem dX7_rider_98 : decode cX7_rider 98 = .ok (.getfield 245, 3) := by decide +kernel
theorem dX7_rider_101 : decode cX7_rider 101 = .ok (.ireturn, 1) := by decide +kernel
theorem dX7_rider_102 : decode cX7_rider 102 = .ok (.aload 4, 2) := by decide +kernel
theorem dX7_rider_104 : decode cX7_rider 104 = .ok (.getfield 248, 3) := by decide +kernel
theorem dX7_rider_107 : decode cX7_rider 107 = .ok (.ireturn, 1) := by decide +kernel
theorem dX7_rider_108 : decode cX7_rider 108 = .ok (.aload 4, 2) := by decide +kernel
theorem dX7_rider_110 : decode cX7_rider 110 = .ok (.getfield 251, 3) := by decide +kernel
theorem dX7_rider_113 : decode cX7_rider 113 = .ok (.ireturn, 1) := by decide +kernel
theorem dX7_rider_114 : decode cX7_rider 114 = .ok (.aload 4, 2) := by decide +kernel
theorem dX7_rider_116 : decode cX7_rider 116 = .ok (.getfield 254, 3) := by decide +kernel
theorem dX7_rider_119 : decode cX7_rider 119 = .ok (.ireturn, 1) := by decide +kernel
theorem dX7_rider_120 : decode cX7_rider 120 = .ok (.aload 4, 2) := by decide +kernel
theorem dX7_rider_122 : decode cX7_rider 122 = .ok (.getfield 257, 3) := by decide +kernel
theorem dX7_rider_125 : decode cX7_rider 125 = .ok (.ireturn, 1) := by decide +kernel
theorem dX7_rider_126 : decode cX7_rider 126 = .ok (.aload 4, 2) := by decide +kernel
theorem dX7_rider_128 : decode cX7_rider 128 = .ok (.getfield 260, 3) := by decide +kernel
theorem dX7_rider_131 : decode cX7_rider 131 = .ok (.ireturn, 1) := by decide +kernel
theorem dX7_rider_132 : decode cX7_rider 132 = .ok (.new 175, 3) := by decide +kernel
theorem dX7_rider_135 : decode cX7_rider 135 = .ok (.dup, 1) := by decide +kernel
theorem dX7_rider_136 : decode cX7_rider 136 = .ok (.ldc_w 263, 3) := by decide +kernel
theorem dX7_rider_139 : decode cX7_rider 139 = .ok (.invokespecial 179, 3) := by decide +kernel
theorem dX7_rider_142 : decode cX7_rider 142 = .ok (.athrow, 1) := by decide +kernel
set_option maxRecDepth 20000 in
set_option maxHeartbeats 4000000 in
theorem vX7_rider_0 {l : Launch} {x : CX} {a0 : Nat} {x1 : Int32} {x2 : Int32} {h : PH} {rc rs n0 : Nat} {Q : Option Value → PH → Prop} {X : String → PH → Prop}
    (K : ((hK h a0).1 = 7) ∧ ∃ b2, (hR h a0 4 = some b2) ∧ ((hK h b2).1 = 3) ∧ ∃ b5, (hR h b2 0 = some b5) ∧ ((x1 < 0 → ThrowOk x RX7 "java/util/NoSuchElementException" "no such rider" ["java/lang/RuntimeException", "java/lang/Exception"] 235 179 ∧ 1 ≤ rc ∧ 6 ≤ rs ∧ X "java/util/NoSuchElementException" h) ∧ (¬ x1 < 0 → ((hK h b5).1 = 1) ∧ ((x1 < (hI h b5 2) → ∃ b11, (hR h b5 14 = some b11) ∧ ((hK h b11).1 = 106) ∧ (vp_in x1 (hK h b11).2) ∧ ∃ b15, (hR h b11 x1.toNatClampNeg = some b15) ∧ ((x2.toInt = 0 → ((hK h b15).1 = 6) ∧ Q (some (.int (hI h b15 0))) h) ∧ (x2.toInt = 1 → ((hK h b15).1 = 6) ∧ Q (some (.int (hI h b15 1))) h) ∧ (x2.toInt = 2 → ((hK h b15).1 = 6) ∧ Q (some (.int (hI h b15 2))) h) ∧ (x2.toInt = 3 → ((hK h b15).1 = 6) ∧ Q (some (.int (hI h b15 3))) h) ∧ (x2.toInt = 4 → ((hK h b15).1 = 6) ∧ Q (some (.int (hI h b15 4))) h) ∧ (x2.toInt = 5 → ((hK h b15).1 = 6) ∧ Q (some (.int (hI h b15 5))) h) ∧ (x2.toInt = 6 → ((hK h b15).1 = 6) ∧ Q (some (.int (hI h b15 7))) h) ∧ (x2.toInt = 7 → ((hK h b15).1 = 6) ∧ Q (some (.int (hI h b15 9))) h) ∧ ((x2.toInt < 0 ∨ 7 < x2.toInt) → ThrowOk x RX7 "java/util/NoSuchElementException" "no such what of a rider" ["java/lang/RuntimeException", "java/lang/Exception"] 263 179 ∧ 1 ≤ rc ∧ 6 ≤ rs ∧ X "java/util/NoSuchElementException" h))) ∧ (¬ x1 < (hI h b5 2) → ThrowOk x RX7 "java/util/NoSuchElementException" "no such rider" ["java/lang/RuntimeException", "java/lang/Exception"] 235 179 ∧ 1 ≤ rc ∧ 6 ≤ rs ∧ X "java/util/NoSuchElementException" h))))) :
    Gm l x mX7_rider 8 0 [(0, .ref a0), (1, .int x1), (2, .int x2)] [] h rc rs n0 Q X := by
  refine g_aload_n dX7_rider_0 rfl 0 rfl ?_
  obtain ⟨e1, b2, e3, K⟩ := K
  refine g_get (c := 7) (k := 4) (v := .ref b2) dX7_rider_1 fc_7 (by decide) (by decide) bw_406 (congrArg pr e3) e1 ?_
  obtain ⟨e4, b5, e6, K⟩ := K
  refine g_get (c := 3) (k := 0) (v := .ref b5) dX7_rider_4 fc_3 (by decide) (by decide) bw_378 (congrArg pr e6) e4 ?_
  refine g_astore_n (lv' := [(0, .ref a0), (1, .int x1), (2, .int x2), (3, .ref b5)]) dX7_rider_7 rfl (by decide) rfl ?_
  refine g_iload_n dX7_rider_8 rfl 1 rfl ?_
  refine g_if_lt (tgt := 20) dX7_rider_9 (by decide) (fun c7 => ?_) (fun c7 => ?_)
  · replace K := K.1 c7
    exact g_throw (cls := "java/util/NoSuchElementException") (text := "no such rider") (names := ["java/lang/RuntimeException", "java/lang/Exception"]) (by decide) (by decide) bw_977 bw_22 K.1.1 K.1.2 dX7_rider_20 dX7_rider_23 dX7_rider_24 dX7_rider_26 dX7_rider_29 (by decide) (Nat.le_of_ble_eq_true rfl) K.2.1 K.2.2.1 K.2.2.2
  · replace K := K.2 c7
    refine g_iload_n dX7_rider_12 rfl 1 rfl ?_
    refine g_aload_n dX7_rider_13 rfl 3 rfl ?_
    obtain ⟨e9, K⟩ := K
    refine g_get (c := 1) (k := 2) (v := .int (hI h b5 2)) dX7_rider_14 fc_1 (by decide) (by decide) bw_194 rfl e9 ?_
    refine g_icmp_lt (tgt := 30) dX7_rider_17 (by decide) (fun c10 => ?_) (fun c10 => ?_)
    · replace K := K.1 c10
      refine g_aload_n dX7_rider_30 rfl 3 rfl ?_
      obtain ⟨b11, e12, K⟩ := K
      refine g_get (c := 1) (k := 14) (v := .ref b11) dX7_rider_31 fc_1 (by decide) (by decide) bw_228 (congrArg pr e12) e9 ?_
      refine g_iload_n dX7_rider_34 rfl 1 rfl ?_
      obtain ⟨e13, e14, b15, e16, K⟩ := K
      refine g_aald (t := 6) (v := .ref b15) dX7_rider_35 (Or.inr (Or.inl rfl)) e13 e14 (congrArg pr e16) ?_
      refine g_astore (lv' := [(0, .ref a0), (1, .int x1), (2, .int x2), (3, .ref b5), (4, .ref b15)]) dX7_rider_36 (by decide) rfl ?_
      refine g_iload_n dX7_rider_38 rfl 2 rfl ?_
      by_cases e17 : 0 ≤ x2.toInt ∧ x2.toInt ≤ 7
      · have e_or : x2.toInt = 0 ∨ x2.toInt = 1 ∨ x2.toInt = 2 ∨ x2.toInt = 3 ∨ x2.toInt = 4 ∨ x2.toInt = 5 ∨ x2.toInt = 6 ∨ x2.toInt = 7 := by omega
        rcases e_or with e_s | e_s | e_s | e_s | e_s | e_s | e_s | e_s
        · replace K := K.1 e_s
          refine g_tableIn (off := 45) (tgt := 84) dX7_rider_39 (by omega) (by omega) (by rw [e_s]; rfl) (by decide) ?_
          refine g_aload dX7_rider_84 4 rfl ?_
          obtain ⟨e18, K⟩ := K
          refine g_get (c := 6) (k := 0) (v := .int (hI h b15 0)) dX7_rider_86 fc_6 (by decide) (by decide) bw_130 rfl e18 ?_
          exact g_iret dX7_rider_89 rfl K
        · replace K := K.2.1 e_s
          refine g_tableIn (off := 51) (tgt := 90) dX7_rider_39 (by omega) (by omega) (by rw [e_s]; rfl) (by decide) ?_
          refine g_aload dX7_rider_90 4 rfl ?_
          obtain ⟨e19, K⟩ := K
          refine g_get (c := 6) (k := 1) (v := .int (hI h b15 1)) dX7_rider_92 fc_6 (by decide) (by decide) bw_134 rfl e19 ?_
          exact g_iret dX7_rider_95 rfl K
        · replace K := K.2.2.1 e_s
          refine g_tableIn (off := 57) (tgt := 96) dX7_rider_39 (by omega) (by omega) (by rw [e_s]; rfl) (by decide) ?_
          refine g_aload dX7_rider_96 4 rfl ?_
          obtain ⟨e20, K⟩ := K
          refine g_get (c := 6) (k := 2) (v := .int (hI h b15 2)) dX7_rider_98 fc_6 (by decide) (by decide) bw_139 rfl e20 ?_
          exact g_iret dX7_rider_101 rfl K
        · replace K := K.2.2.2.1 e_s
          refine g_tableIn (off := 63) (tgt := 102) dX7_rider_39 (by omega) (by omega) (by rw [e_s]; rfl) (by decide) ?_
          refine g_aload dX7_rider_102 4 rfl ?_
          obtain ⟨e21, K⟩ := K
          refine g_get (c := 6) (k := 3) (v := .int (hI h b15 3)) dX7_rider_104 fc_6 (by decide) (by decide) bw_141 rfl e21 ?_
          exact g_iret dX7_rider_107 rfl K
        · replace K := K.2.2.2.2.1 e_s
          refine g_tableIn (off := 69) (tgt := 108) dX7_rider_39 (by omega) (by omega) (by rw [e_s]; rfl) (by decide) ?_
          refine g_aload dX7_rider_108 4 rfl ?_
          obtain ⟨e22, K⟩ := K
          refine g_get (c := 6) (k := 4) (v := .int (hI h b15 4)) dX7_rider_110 fc_6 (by decide) (by decide) bw_145 rfl e22 ?_
          exact g_iret dX7_rider_113 rfl K
        · replace K := K.2.2.2.2.2.1 e_s
          refine g_tableIn (off := 75) (tgt := 114) dX7_rider_39 (by omega) (by omega) (by rw [e_s]; rfl) (by decide) ?_
          refine g_aload dX7_rider_114 4 rfl ?_
          obtain ⟨e23, K⟩ := K
          refine g_get (c := 6) (k := 5) (v := .int (hI h b15 5)) dX7_rider_116 fc_6 (by decide) (by decide) bw_149 rfl e23 ?_
          exact g_iret dX7_rider_119 rfl K
        · replace K := K.2.2.2.2.2.2.1 e_s
          refine g_tableIn (off := 81) (tgt := 120) dX7_rider_39 (by omega) (by omega) (by rw [e_s]; rfl) (by decide) ?_
          refine g_aload dX7_rider_120 4 rfl ?_
          obtain ⟨e24, K⟩ := K
          refine g_get (c := 6) (k := 7) (v := .int (hI h b15 7)) dX7_rider_122 fc_6 (by decide) (by decide) bw_156 rfl e24 ?_
          exact g_iret dX7_rider_125 rfl K
        · replace K := K.2.2.2.2.2.2.2.1 e_s
          refine g_tableIn (off := 87) (tgt := 126) dX7_rider_39 (by omega) (by omega) (by rw [e_s]; rfl) (by decide) ?_
          refine g_aload dX7_rider_126 4 rfl ?_
          obtain ⟨e25, K⟩ := K
          refine g_get (c := 6) (k := 9) (v := .int (hI h b15 9)) dX7_rider_128 fc_6 (by decide) (by decide) bw_162 rfl e25 ?_
          exact g_iret dX7_rider_131 rfl K
      · replace K := K.2.2.2.2.2.2.2.2 (by omega)
        refine g_tableOut (tgt := 132) dX7_rider_39 (by omega) (by decide) ?_
        exact g_throwW (cls := "java/util/NoSuchElementException") (text := "no such what of a rider") (names := ["java/lang/RuntimeException", "java/lang/Exception"]) (by decide) (by decide) bw_977 bw_22 K.1.1 K.1.2 dX7_rider_132 dX7_rider_135 dX7_rider_136 dX7_rider_139 dX7_rider_142 (by decide) (Nat.le_of_ble_eq_true rfl) K.2.1 K.2.2.1 K.2.2.2
    · replace K := K.2 c10
      exact g_throw (cls := "java/util/NoSuchElementException") (text := "no such rider") (names := ["java/lang/RuntimeException", "java/lang/Exception"]) (by decide) (by decide) bw_977 bw_22 K.1.1 K.1.2 dX7_rider_20 dX7_rider_23 dX7_rider_24 dX7_rider_26 dX7_rider_29 (by decide) (Nat.le_of_ble_eq_true rfl) K.2.1 K.2.2.1 K.2.2.2
theorem dX7_given_0 : decode cX7_given 0 = .ok (.aload_n 0, 1) := by decide +kernel
theorem dX7_given_1 : decode cX7_given 1 = .ok (.getfield 37, 3) := by decide +kernel
theorem dX7_given_4 : decode cX7_given 4 = .ok (.getfield 81, 3) := by decide +kernel
theorem dX7_given_7 : decode cX7_given 7 = .ok (.astore 4, 2) := by decide +kernel
theorem dX7_given_9 : decode cX7_given 9 = .ok (.aload 4, 2) := by decide +kernel
theorem dX7_given_11 : decode cX7_given 11 = .ok (.iload_n 1, 1) := by decide +kernel
theorem dX7_given_12 : decode cX7_given 12 = .ok (.invokevirtual 265, 3) := by decide +kernel
theorem dX7_given_15 : decode cX7_given 15 = .ok (.ifCond .eq 10, 3) := by decide +kernel
theorem dX7_given_18 : decode cX7_given 18 = .ok (.iload_n 3, 1) := by decide +kernel
theorem dX7_given_19 : decode cX7_given 19 = .ok (.invokestatic 269, 3) := by decide +kernel
theorem dX7_given_22 : decode cX7_given 22 = .ok (.ifCond .ne 14, 3) := by decide +kernel
theorem dX7_given_25 : decode cX7_given 25 = .ok (.new 175, 3) := by decide +kernel
theorem dX7_given_28 : decode cX7_given 28 = .ok (.dup, 1) := by decide +kernel
theorem dX7_given_29 : decode cX7_given 29 = .ok (.ldc_w 272, 3) := by decide +kernel
theorem dX7_given_32 : decode cX7_given 32 = .ok (.invokespecial 179, 3) := by decide +kernel
theorem dX7_given_35 : decode cX7_given 35 = .ok (.athrow, 1) := by decide +kernel
theorem dX7_given_36 : decode cX7_given 36 = .ok (.iload_n 1, 1) := by decide +kernel
theorem dX7_given_37 : decode cX7_given 37 = .ok (.iload_n 2, 1) := by decide +kernel
theorem dX7_given_38 : decode cX7_given 38 = .ok (.ifCond .eq 7, 3) := by decide +kernel
theorem dX7_given_41 : decode cX7_given 41 = .ok (.iconst 1, 1) := by decide +kernel
theorem dX7_given_42 : decode cX7_given 42 = .ok (.goto 4, 3) := by decide +kernel
theorem dX7_given_45 : decode cX7_given 45 = .ok (.iconst (-1), 1) := by decide +kernel
theorem dX7_given_46 : decode cX7_given 46 = .ok (.iload_n 3, 1) := by decide +kernel
theorem dX7_given_47 : decode cX7_given 47 = .ok (.invokestatic 274, 3) := by decide +kernel
theorem dX7_given_50 : decode cX7_given 50 = .ok (.istore 5, 2) := by decide +kernel
theorem dX7_given_52 : decode cX7_given 52 = .ok (.aload 4, 2) := by decide +kernel
theorem dX7_given_54 : decode cX7_given 54 = .ok (.invokevirtual 117, 3) := by decide +kernel
theorem dX7_given_57 : decode cX7_given 57 = .ok (.iload 5, 2) := by decide +kernel
theorem dX7_given_59 : decode cX7_given 59 = .ok (.lushr, 1) := by decide +kernel
theorem dX7_given_60 : decode cX7_given 60 = .ok (.lconst 1, 1) := by decide +kernel
theorem dX7_given_61 : decode cX7_given 61 = .ok (.land, 1) := by decide +kernel
theorem dX7_given_62 : decode cX7_given 62 = .ok (.lconst 0, 1) := by decide +kernel
theorem dX7_given_63 : decode cX7_given 63 = .ok (.lcmp, 1) := by decide +kernel
theorem dX7_given_64 : decode cX7_given 64 = .ok (.ifCond .ne 8, 3) := by decide +kernel
theorem dX7_given_67 : decode cX7_given 67 = .ok (.bipush (-2), 2) := by decide +kernel
theorem dX7_given_69 : decode cX7_given 69 = .ok (.goto 10, 3) := by decide +kernel
theorem dX7_given_72 : decode cX7_given 72 = .ok (.aload 4, 2) := by decide +kernel
theorem dX7_given_74 : decode cX7_given 74 = .ok (.iload 5, 2) := by decide +kernel
theorem dX7_given_76 : decode cX7_given 76 = .ok (.invokevirtual 278, 3) := by decide +kernel
theorem dX7_given_79 : decode cX7_given 79 = .ok (.ireturn, 1) := by decide +kernel
set_option maxRecDepth 20000 in
set_option maxHeartbeats 4000000 in
theorem vX7_given_0 {l : Launch} {x : CX} {a0 : Nat} {x1 : Int32} {x2 : Int32} {x3 : Int32} {h : PH} {rc rs n0 : Nat} {Q : Option Value → PH → Prop} {X : String → PH → Prop}
    (K : ((hK h a0).1 = 7) ∧ ∃ b2, (hR h a0 4 = some b2) ∧ ((hK h b2).1 = 3) ∧ ∃ b5, (hR h b2 0 = some b5) ∧ ((hK h b5).1 = 1) ∧ ∃ (q7 : Int32 → PH → Prop), CI l x mX1_hasFloor 0 0 0 [.ref b5, .int x1] h q7 ∧ ∀ (r11 : Int32) (h10 : PH), q7 r11 h10 → ((r11 = 0 → ThrowOk x RX7 "java/util/NoSuchElementException" "no such floor or sort" ["java/lang/RuntimeException", "java/lang/Exception"] 272 179 ∧ 1 ≤ rc ∧ 6 ≤ rs ∧ X "java/util/NoSuchElementException" h10) ∧ (¬ r11 = 0 → ∃ (q14 : Int32 → PH → Prop), CI l x mX7_isSort 0 0 0 [.int x3] h10 q14 ∧ ∀ (r17 : Int32) (h16 : PH), q14 r17 h16 → ((¬ r17 = 0 → ∃ (q20 : Int32 → PH → Prop), CI l x mX7_callNumber 0 0 0 [.int x1, .int (if x2 = 0 then (-1) else 1 : Int32), .int x3] h16 q20 ∧ ∀ (r23 : Int32) (h22 : PH), q20 r23 h22 → ((hK h22 b5).1 = 1) ∧ ∃ (q24 : Int64 → PH → Prop), CJ l x mX1_callsWaiting 1 0 0 [.ref b5] h22 q24 ∧ ∀ (r28 : Int64) (h27 : PH), q24 r28 h27 → ((¬ (lg_cmp ((lus r28 r23) &&& 1) 0) = 0 → ((hK h27 b5).1 = 1) ∧ ∃ (q30 : Int32 → PH → Prop), CI l x mX1_holderOf 0 0 0 [.ref b5, .int r23] h27 q30 ∧ ∀ (r34 : Int32) (h33 : PH), q30 r34 h33 → Q (some (.int r34)) h33) ∧ ((lg_cmp ((lus r28 r23) &&& 1) 0) = 0 → Q (some (.int (-2))) h27))) ∧ (r17 = 0 → ThrowOk x RX7 "java/util/NoSuchElementException" "no such floor or sort" ["java/lang/RuntimeException", "java/lang/Exception"] 272 179 ∧ 1 ≤ rc ∧ 6 ≤ rs ∧ X "java/util/NoSuchElementException" h16))))) :
    Gm l x mX7_given 8 0 [(0, .ref a0), (1, .int x1), (2, .int x2), (3, .int x3)] [] h rc rs n0 Q X := by
  refine g_aload_n dX7_given_0 rfl 0 rfl ?_
  obtain ⟨e1, b2, e3, K⟩ := K
  refine g_get (c := 7) (k := 4) (v := .ref b2) dX7_given_1 fc_7 (by decide) (by decide) bw_406 (congrArg pr e3) e1 ?_
  obtain ⟨e4, b5, e6, K⟩ := K
  refine g_get (c := 3) (k := 0) (v := .ref b5) dX7_given_4 fc_3 (by decide) (by decide) bw_378 (congrArg pr e6) e4 ?_
  refine g_astore (lv' := [(0, .ref a0), (1, .int x1), (2, .int x2), (3, .int x3), (4, .ref b5)]) dX7_given_7 (by decide) rfl ?_
  refine g_aload dX7_given_9 4 rfl ?_
  refine g_iload_n dX7_given_11 rfl 1 rfl ?_
  obtain ⟨e9, K⟩ := K
  obtain ⟨q7, C8, K⟩ := K
  refine g_callV (M' := mX1_hasFloor) (b := b5) (As := [.int x1]) (rest := []) (rc' := rc) (rs' := rs) dX7_given_12 bw_609 bw_610 bw_611 bw_3 bw_612 ⟨by decide +kernel, by decide +kernel, show (parseMethodDescriptor mX1_hasFloor.1.desc).map (fun d => d.parameters.length) = some 1 by decide +kernel⟩ (by decide) (by decide) (Nat.le_of_ble_eq_true rfl) fc_1 (by decide) rfl e9 C8 (Nat.le_of_eq (Nat.add_zero _)) (Nat.le_of_eq (Nat.add_zero _)) (fun _ _ h => h) ?_
  rintro _ h10 ⟨r11, rfl, K1⟩ -
  replace K := K r11 h10 K1
  show Gm l x mX7_given 8 15 [(0, .ref a0), (1, .int x1), (2, .int x2), (3, .int x3), (4, .ref b5)] [.int r11] h10 rc rs n0 Q X
  refine g_if_eq (tgt := 25) dX7_given_15 (by decide) (fun c12 => ?_) (fun c12 => ?_)
  · replace K := K.1 c12
    exact g_throwW (cls := "java/util/NoSuchElementException") (text := "no such floor or sort") (names := ["java/lang/RuntimeException", "java/lang/Exception"]) (by decide) (by decide) bw_977 bw_22 K.1.1 K.1.2 dX7_given_25 dX7_given_28 dX7_given_29 dX7_given_32 dX7_given_35 (by decide) (Nat.le_of_ble_eq_true rfl) K.2.1 K.2.2.1 K.2.2.2
  · replace K := K.2 c12
    refine g_iload_n dX7_given_18 rfl 3 rfl ?_
    obtain ⟨q14, C15, K⟩ := K
    refine g_callS (M' := mX7_isSort) (As := [.int x3]) (rest := []) (rc' := rc) (rs' := rs) dX7_given_19 bw_613 bw_614 bw_1 bw_615 ⟨by decide +kernel, by decide +kernel, show (parseMethodDescriptor mX7_isSort.1.desc).map (fun d => d.parameters.length) = some 1 by decide +kernel⟩ (by decide) (by decide) (Nat.le_of_ble_eq_true rfl) C15 (Nat.le_of_eq (Nat.add_zero _)) (Nat.le_of_eq (Nat.add_zero _)) (fun _ _ h => h) ?_
    rintro _ h16 ⟨r17, rfl, K1⟩ -
    replace K := K r17 h16 K1
    show Gm l x mX7_given 8 22 [(0, .ref a0), (1, .int x1), (2, .int x2), (3, .int x3), (4, .ref b5)] [.int r17] h16 rc rs n0 Q X
    refine g_if_ne (tgt := 36) dX7_given_22 (by decide) (fun c18 => ?_) (fun c18 => ?_)
    · replace K := K.1 c18
      refine g_iload_n dX7_given_36 rfl 1 rfl ?_
      refine g_iload_n dX7_given_37 rfl 2 rfl ?_
      have KJ : Gm l x mX7_given 8 46 [(0, .ref a0), (1, .int x1), (2, .int x2), (3, .int x3), (4, .ref b5)] [.int (if x2 = 0 then (-1) else 1 : Int32), .int x1] h16 rc rs n0 Q X := by
        refine g_iload_n dX7_given_46 rfl 3 rfl ?_
        obtain ⟨q20, C21, K⟩ := K
        refine g_callS (M' := mX7_callNumber) (As := [.int x1, .int (if x2 = 0 then (-1) else 1 : Int32), .int x3]) (rest := []) (rc' := rc) (rs' := rs) dX7_given_47 bw_1027 bw_531 bw_1 bw_532 ⟨by decide +kernel, by decide +kernel, show (parseMethodDescriptor mX7_callNumber.1.desc).map (fun d => d.parameters.length) = some 3 by decide +kernel⟩ (by decide) (by decide) (Nat.le_of_ble_eq_true rfl) C21 (Nat.le_of_eq (Nat.add_zero _)) (Nat.le_of_eq (Nat.add_zero _)) (fun _ _ h => h) ?_
        rintro _ h22 ⟨r23, rfl, K1⟩ -
        replace K := K r23 h22 K1
        show Gm l x mX7_given 8 50 [(0, .ref a0), (1, .int x1), (2, .int x2), (3, .int x3), (4, .ref b5)] [.int r23] h22 rc rs n0 Q X
        refine g_istore (lv' := [(0, .ref a0), (1, .int x1), (2, .int x2), (3, .int x3), (4, .ref b5), (5, .int r23)]) dX7_given_50 (by decide) rfl ?_
        refine g_aload dX7_given_52 4 rfl ?_
        obtain ⟨e26, K⟩ := K
        obtain ⟨q24, C25, K⟩ := K
        refine g_callV (M' := mX1_callsWaiting) (b := b5) (As := []) (rest := []) (rc' := rc) (rs' := rs) dX7_given_54 bw_906 bw_527 bw_528 bw_3 bw_529 ⟨by decide +kernel, by decide +kernel, show (parseMethodDescriptor mX1_callsWaiting.1.desc).map (fun d => d.parameters.length) = some 0 by decide +kernel⟩ (by decide) (by decide) (Nat.le_of_ble_eq_true rfl) fc_1 (by decide) rfl e26 C25 (Nat.le_of_eq (Nat.add_zero _)) (Nat.le_of_eq (Nat.add_zero _)) (fun _ _ h => h) ?_
        rintro _ h27 ⟨r28, rfl, K1⟩ -
        replace K := K r28 h27 K1
        show Gm l x mX7_given 8 57 [(0, .ref a0), (1, .int x1), (2, .int x2), (3, .int x3), (4, .ref b5), (5, .int r23)] [.long r28] h27 rc rs n0 Q X
        refine g_iload dX7_given_57 5 rfl ?_
        refine g_lushr dX7_given_59 ?_
        refine g_lconst (v := 1) dX7_given_60 (by decide) ?_
        refine g_land dX7_given_61 ?_
        refine g_lconst (v := 0) dX7_given_62 (by decide) ?_
        refine g_lcmp dX7_given_63 ?_
        refine g_if_ne (tgt := 72) dX7_given_64 (by decide) (fun c29 => ?_) (fun c29 => ?_)
        · replace K := K.1 c29
          refine g_aload dX7_given_72 4 rfl ?_
          refine g_iload dX7_given_74 5 rfl ?_
          obtain ⟨e32, K⟩ := K
          obtain ⟨q30, C31, K⟩ := K
          refine g_callV (M' := mX1_holderOf) (b := b5) (As := [.int r23]) (rest := []) (rc' := rc) (rs' := rs) dX7_given_76 bw_1028 bw_538 bw_539 bw_3 bw_540 ⟨by decide +kernel, by decide +kernel, show (parseMethodDescriptor mX1_holderOf.1.desc).map (fun d => d.parameters.length) = some 1 by decide +kernel⟩ (by decide) (by decide) (Nat.le_of_ble_eq_true rfl) fc_1 (by decide) rfl e32 C31 (Nat.le_of_eq (Nat.add_zero _)) (Nat.le_of_eq (Nat.add_zero _)) (fun _ _ h => h) ?_
          rintro _ h33 ⟨r34, rfl, K1⟩ -
          replace K := K r34 h33 K1
          show Gm l x mX7_given 8 79 [(0, .ref a0), (1, .int x1), (2, .int x2), (3, .int x3), (4, .ref b5), (5, .int r23)] [.int r34] h33 rc rs n0 Q X
          exact g_iret dX7_given_79 rfl K
        · replace K := K.2 c29
          refine g_bipush (v := (-2)) dX7_given_67 (by decide) ?_
          refine g_goto (tgt := 79) dX7_given_69 (by decide) ?_
          exact g_iret dX7_given_79 rfl K
      refine g_if_eq (tgt := 45) dX7_given_38 (by decide) (fun c19 => ?_) (fun c19 => ?_)
      · refine g_iconst (v := (-1)) dX7_given_45 (by decide) ?_
        first | (simp only [if_pos c19] at KJ; exact KJ) | (simp only [if_pos c19, ite_true, ite_false, eq_self] at KJ; exact KJ) | (simp only [if_pos c19] at KJ ⊢; exact KJ) | exact KJ
      · refine g_iconst (v := 1) dX7_given_41 (by decide) ?_
        refine g_goto (tgt := 46) dX7_given_42 (by decide) ?_
        first | (simp only [if_neg c19] at KJ; exact KJ) | (simp only [if_neg c19, ite_true, ite_false, eq_self] at KJ; exact KJ) | (simp only [if_neg c19] at KJ ⊢; exact KJ) | exact KJ
    · replace K := K.2 c18
      exact g_throwW (cls := "java/util/NoSuchElementException") (text := "no such floor or sort") (names := ["java/lang/RuntimeException", "java/lang/Exception"]) (by decide) (by decide) bw_977 bw_22 K.1.1 K.1.2 dX7_given_25 dX7_given_28 dX7_given_29 dX7_given_32 dX7_given_35 (by decide) (Nat.le_of_ble_eq_true rfl) K.2.1 K.2.2.1 K.2.2.2
theorem dX7_cost_0 : decode cX7_cost 0 = .ok (.aload_n 0, 1) := by decide +kernel
theorem dX7_cost_1 : decode cX7_cost 1 = .ok (.getfield 37, 3) := by decide +kernel
theorem dX7_cost_4 : decode cX7_cost 4 = .ok (.getfield 81, 3) := by decide +kernel
theorem dX7_cost_7 : decode cX7_cost 7 = .ok (.astore 5, 2) := by decide +kernel
theorem dX7_cost_9 : decode cX7_cost 9 = .ok (.iload_n 1, 1) := by decide +kernel
theorem dX7_cost_10 : decode cX7_cost 10 = .ok (.ifCond .lt 29, 3) := by decide +kernel
theorem dX7_cost_13 : decode cX7_cost 13 = .ok (.iload_n 1, 1) := by decide +kernel
theorem dX7_cost_14 : decode cX7_cost 14 = .ok (.aload 5, 2) := by decide +kernel
theorem dX7_cost_16 : decode cX7_cost 16 = .ok (.getfield 87, 3) := by decide +kernel
theorem dX7_cost_19 : decode cX7_cost 19 = .ok (.if_icmp .ge 20, 3) := by decide +kernel
theorem dX7_cost_22 : decode cX7_cost 22 = .ok (.aload 5, 2) := by decide +kernel
theorem dX7_cost_24 : decode cX7_cost 24 = .ok (.iload_n 2, 1) := by decide +kernel
theorem dX7_cost_25 : decode cX7_cost 25 = .ok (.invokevirtual 265, 3) := by decide +kernel
theorem dX7_cost_28 : decode cX7_cost 28 = .ok (.ifCond .eq 11, 3) := by decide +kernel
theorem dX7_cost_31 : decode cX7_cost 31 = .ok (.iload 4, 2) := by decide +kernel
theorem dX7_cost_33 : decode cX7_cost 33 = .ok (.invokestatic 269, 3) := by decide +kernel
theorem dX7_cost_36 : decode cX7_cost 36 = .ok (.ifCond .ne 14, 3) := by decide +kernel
theorem dX7_cost_39 : decode cX7_cost 39 = .ok (.new 175, 3) := by decide +kernel
theorem dX7_cost_42 : decode cX7_cost 42 = .ok (.dup, 1) := by decide +kernel
theorem dX7_cost_43 : decode cX7_cost 43 = .ok (.ldc_w 281, 3) := by decide +kernel
theorem dX7_cost_46 : decode cX7_cost 46 = .ok (.invokespecial 179, 3) := by decide +kernel
theorem dX7_cost_49 : decode cX7_cost 49 = .ok (.athrow, 1) := by decide +kernel
theorem dX7_cost_50 : decode cX7_cost 50 = .ok (.aload 5, 2) := by decide +kernel
theorem dX7_cost_52 : decode cX7_cost 52 = .ok (.getfield 192, 3) := by decide +kernel
theorem dX7_cost_55 : decode cX7_cost 55 = .ok (.iload_n 1, 1) := by decide +kernel
theorem dX7_cost_56 : decode cX7_cost 56 = .ok (.aaload, 1) := by decide +kernel
theorem dX7_cost_57 : decode cX7_cost 57 = .ok (.astore 6, 2) := by decide +kernel
theorem dX7_cost_59 : decode cX7_cost 59 = .ok (.aload 6, 2) := by decide +kernel
theorem dX7_cost_61 : decode cX7_cost 61 = .ok (.getfield 219, 3) := by decide +kernel
theorem dX7_cost_64 : decode cX7_cost 64 = .ok (.ifCond .eq 13, 3) := by decide +kernel
theorem dX7_cost_67 : decode cX7_cost 67 = .ok (.aload 6, 2) := by decide +kernel
theorem dX7_cost_69 : decode cX7_cost 69 = .ok (.iload 4, 2) := by decide +kernel
theorem dX7_cost_71 : decode cX7_cost 71 = .ok (.invokevirtual 283, 3) := by decide +kernel
theorem dX7_cost_74 : decode cX7_cost 74 = .ok (.ifCond .ne 14, 3) := by decide +kernel
theorem dX7_cost_77 : decode cX7_cost 77 = .ok (.new 55, 3) := by decide +kernel
theorem dX7_cost_80 : decode cX7_cost 80 = .ok (.dup, 1) := by decide +kernel
theorem dX7_cost_81 : decode cX7_cost 81 = .ok (.ldc_w 286, 3) := by decide +kernel
theorem dX7_cost_84 : decode cX7_cost 84 = .ok (.invokespecial 59, 3) := by decide +kernel
theorem dX7_cost_87 : decode cX7_cost 87 = .ok (.athrow, 1) := by decide +kernel
theorem dX7_cost_88 : decode cX7_cost 88 = .ok (.aload 5, 2) := by decide +kernel
theorem dX7_cost_90 : decode cX7_cost 90 = .ok (.aload 6, 2) := by decide +kernel
theorem dX7_cost_92 : decode cX7_cost 92 = .ok (.iload_n 2, 1) := by decide +kernel
theorem dX7_cost_93 : decode cX7_cost 93 = .ok (.iload_n 3, 1) := by decide +kernel
theorem dX7_cost_94 : decode cX7_cost 94 = .ok (.ifCond .eq 7, 3) := by decide +kernel
theorem dX7_cost_97 : decode cX7_cost 97 = .ok (.iconst 1, 1) := by decide +kernel
theorem dX7_cost_98 : decode cX7_cost 98 = .ok (.goto 4, 3) := by decide +kernel
theorem dX7_cost_101 : decode cX7_cost 101 = .ok (.iconst (-1), 1) := by decide +kernel
theorem dX7_cost_102 : decode cX7_cost 102 = .ok (.iload 4, 2) := by decide +kernel
theorem dX7_cost_104 : decode cX7_cost 104 = .ok (.invokestatic 274, 3) := by decide +kernel
theorem dX7_cost_107 : decode cX7_cost 107 = .ok (.invokevirtual 288, 3) := by decide +kernel
theorem dX7_cost_110 : decode cX7_cost 110 = .ok (.ireturn, 1) := by decide +kernel
set_option maxRecDepth 20000 in
set_option maxHeartbeats 4000000 in
theorem vX7_cost_0 {l : Launch} {x : CX} {a0 : Nat} {x1 : Int32} {x2 : Int32} {x3 : Int32} {x4 : Int32} {h : PH} {rc rs n0 : Nat} {Q : Option Value → PH → Prop} {X : String → PH → Prop}
    (K : ((hK h a0).1 = 7) ∧ ∃ b2, (hR h a0 4 = some b2) ∧ ((hK h b2).1 = 3) ∧ ∃ b5, (hR h b2 0 = some b5) ∧ ((x1 < 0 → ThrowOk x RX7 "java/util/NoSuchElementException" "no such car, floor or sort" ["java/lang/RuntimeException", "java/lang/Exception"] 281 179 ∧ 1 ≤ rc ∧ 6 ≤ rs ∧ X "java/util/NoSuchElementException" h) ∧ (¬ x1 < 0 → ((hK h b5).1 = 1) ∧ (((hI h b5 1) ≤ x1 → ThrowOk x RX7 "java/util/NoSuchElementException" "no such car, floor or sort" ["java/lang/RuntimeException", "java/lang/Exception"] 281 179 ∧ 1 ≤ rc ∧ 6 ≤ rs ∧ X "java/util/NoSuchElementException" h) ∧ (¬ (hI h b5 1) ≤ x1 → ∃ (q12 : Int32 → PH → Prop), CI l x mX1_hasFloor 0 0 0 [.ref b5, .int x2] h q12 ∧ ∀ (r15 : Int32) (h14 : PH), q12 r15 h14 → ((r15 = 0 → ThrowOk x RX7 "java/util/NoSuchElementException" "no such car, floor or sort" ["java/lang/RuntimeException", "java/lang/Exception"] 281 179 ∧ 1 ≤ rc ∧ 6 ≤ rs ∧ X "java/util/NoSuchElementException" h14) ∧ (¬ r15 = 0 → ∃ (q18 : Int32 → PH → Prop), CI l x mX7_isSort 0 0 0 [.int x4] h14 q18 ∧ ∀ (r21 : Int32) (h20 : PH), q18 r21 h20 → ((¬ r21 = 0 → ((hK h20 b5).1 = 1) ∧ ∃ b24, (hR h20 b5 13 = some b24) ∧ ((hK h20 b24).1 = 105) ∧ (vp_in x1 (hK h20 b24).2) ∧ ∃ b28, (hR h20 b24 x1.toNatClampNeg = some b28) ∧ ((hK h20 b28).1 = 2) ∧ (((hI h20 b28 6) = 0 → ThrowOk x RX7 "java/lang/IllegalArgumentException" "the car is out, or does not take that sort" ["java/lang/RuntimeException", "java/lang/Exception"] 286 59 ∧ 1 ≤ rc ∧ 6 ≤ rs ∧ X "java/lang/IllegalArgumentException" h20) ∧ (¬ (hI h20 b28 6) = 0 → ∃ (q33 : Int32 → PH → Prop), CI l x mX2_takes 0 0 0 [.ref b28, .int x4] h20 q33 ∧ ∀ (r36 : Int32) (h35 : PH), q33 r36 h35 → ((¬ r36 = 0 → ∃ (q39 : Int32 → PH → Prop), CI l x mX7_callNumber 0 0 0 [.int x2, .int (if x3 = 0 then (-1) else 1 : Int32), .int x4] h35 q39 ∧ ∀ (r42 : Int32) (h41 : PH), q39 r42 h41 → ((hK h41 b5).1 = 1) ∧ ∃ (q43 : Int32 → PH → Prop), CI l x mX1_costOf 2 0 0 [.ref b5, .ref b28, .int r42] h41 q43 ∧ ∀ (r47 : Int32) (h46 : PH), q43 r47 h46 → Q (some (.int r47)) h46) ∧ (r36 = 0 → ThrowOk x RX7 "java/lang/IllegalArgumentException" "the car is out, or does not take that sort" ["java/lang/RuntimeException", "java/lang/Exception"] 286 59 ∧ 1 ≤ rc ∧ 6 ≤ rs ∧ X "java/lang/IllegalArgumentException" h35))))) ∧ (r21 = 0 → ThrowOk x RX7 "java/util/NoSuchElementException" "no such car, floor or sort" ["java/lang/RuntimeException", "java/lang/Exception"] 281 179 ∧ 1 ≤ rc ∧ 6 ≤ rs ∧ X "java/util/NoSuchElementException" h20))))))))) :
    Gm l x mX7_cost 8 0 [(0, .ref a0), (1, .int x1), (2, .int x2), (3, .int x3), (4, .int x4)] [] h rc rs n0 Q X := by
  refine g_aload_n dX7_cost_0 rfl 0 rfl ?_
  obtain ⟨e1, b2, e3, K⟩ := K
  refine g_get (c := 7) (k := 4) (v := .ref b2) dX7_cost_1 fc_7 (by decide) (by decide) bw_406 (congrArg pr e3) e1 ?_
  obtain ⟨e4, b5, e6, K⟩ := K
  refine g_get (c := 3) (k := 0) (v := .ref b5) dX7_cost_4 fc_3 (by decide) (by decide) bw_378 (congrArg pr e6) e4 ?_
  refine g_astore (lv' := [(0, .ref a0), (1, .int x1), (2, .int x2), (3, .int x3), (4, .int x4), (5, .ref b5)]) dX7_cost_7 (by decide) rfl ?_
  refine g_iload_n dX7_cost_9 rfl 1 rfl ?_
  refine g_if_lt (tgt := 39) dX7_cost_10 (by decide) (fun c7 => ?_) (fun c7 => ?_)
  · replace K := K.1 c7
    exact g_throwW (cls := "java/util/NoSuchElementException") (text := "no such car, floor or sort") (names := ["java/lang/RuntimeException", "java/lang/Exception"]) (by decide) (by decide) bw_977 bw_22 K.1.1 K.1.2 dX7_cost_39 dX7_cost_42 dX7_cost_43 dX7_cost_46 dX7_cost_49 (by decide) (Nat.le_of_ble_eq_true rfl) K.2.1 K.2.2.1 K.2.2.2
  · replace K := K.2 c7
    refine g_iload_n dX7_cost_13 rfl 1 rfl ?_
    refine g_aload dX7_cost_14 5 rfl ?_
    obtain ⟨e9, K⟩ := K
    refine g_get (c := 1) (k := 1) (v := .int (hI h b5 1)) dX7_cost_16 fc_1 (by decide) (by decide) bw_189 rfl e9 ?_
    refine g_icmp_ge (tgt := 39) dX7_cost_19 (by decide) (fun c10 => ?_) (fun c10 => ?_)
    · replace K := K.1 c10
      exact g_throwW (cls := "java/util/NoSuchElementException") (text := "no such car, floor or sort") (names := ["java/lang/RuntimeException", "java/lang/Exception"]) (by decide) (by decide) bw_977 bw_22 K.1.1 K.1.2 dX7_cost_39 dX7_cost_42 dX7_cost_43 dX7_cost_46 dX7_cost_49 (by decide) (Nat.le_of_ble_eq_true rfl) K.2.1 K.2.2.1 K.2.2.2
    · replace K := K.2 c10
      refine g_aload dX7_cost_22 5 rfl ?_
      refine g_iload_n dX7_cost_24 rfl 2 rfl ?_
      obtain ⟨q12, C13, K⟩ := K
      refine g_callV (M' := mX1_hasFloor) (b := b5) (As := [.int x2]) (rest := []) (rc' := rc) (rs' := rs) dX7_cost_25 bw_609 bw_610 bw_611 bw_3 bw_612 ⟨by decide +kernel, by decide +kernel, show (parseMethodDescriptor mX1_hasFloor.1.desc).map (fun d => d.parameters.length) = some 1 by decide +kernel⟩ (by decide) (by decide) (Nat.le_of_ble_eq_true rfl) fc_1 (by decide) rfl e9 C13 (Nat.le_of_eq (Nat.add_zero _)) (Nat.le_of_eq (Nat.add_zero _)) (fun _ _ h => h) ?_
      rintro _ h14 ⟨r15, rfl, K1⟩ -
      replace K := K r15 h14 K1
      show Gm l x mX7_cost 8 28 [(0, .ref a0), (1, .int x1), (2, .int x2), (3, .int x3), (4, .int x4), (5, .ref b5)] [.int r15] h14 rc rs n0 Q X
      refine g_if_eq (tgt := 39) dX7_cost_28 (by decide) (fun c16 => ?_) (fun c16 => ?_)
      · replace K := K.1 c16
        exact g_throwW (cls := "java/util/NoSuchElementException") (text := "no such car, floor or sort") (names := ["java/lang/RuntimeException", "java/lang/Exception"]) (by decide) (by decide) bw_977 bw_22 K.1.1 K.1.2 dX7_cost_39 dX7_cost_42 dX7_cost_43 dX7_cost_46 dX7_cost_49 (by decide) (Nat.le_of_ble_eq_true rfl) K.2.1 K.2.2.1 K.2.2.2
      · replace K := K.2 c16
        refine g_iload dX7_cost_31 4 rfl ?_
        obtain ⟨q18, C19, K⟩ := K
        refine g_callS (M' := mX7_isSort) (As := [.int x4]) (rest := []) (rc' := rc) (rs' := rs) dX7_cost_33 bw_613 bw_614 bw_1 bw_615 ⟨by decide +kernel, by decide +kernel, show (parseMethodDescriptor mX7_isSort.1.desc).map (fun d => d.parameters.length) = some 1 by decide +kernel⟩ (by decide) (by decide) (Nat.le_of_ble_eq_true rfl) C19 (Nat.le_of_eq (Nat.add_zero _)) (Nat.le_of_eq (Nat.add_zero _)) (fun _ _ h => h) ?_
        rintro _ h20 ⟨r21, rfl, K1⟩ -
        replace K := K r21 h20 K1
        show Gm l x mX7_cost 8 36 [(0, .ref a0), (1, .int x1), (2, .int x2), (3, .int x3), (4, .int x4), (5, .ref b5)] [.int r21] h20 rc rs n0 Q X
        refine g_if_ne (tgt := 50) dX7_cost_36 (by decide) (fun c22 => ?_) (fun c22 => ?_)
        · replace K := K.1 c22
          refine g_aload dX7_cost_50 5 rfl ?_
          obtain ⟨e23, b24, e25, K⟩ := K
          refine g_get (c := 1) (k := 13) (v := .ref b24) dX7_cost_52 fc_1 (by decide) (by decide) bw_224 (congrArg pr e25) e23 ?_
          refine g_iload_n dX7_cost_55 rfl 1 rfl ?_
          obtain ⟨e26, e27, b28, e29, K⟩ := K
          refine g_aald (t := 5) (v := .ref b28) dX7_cost_56 (Or.inl rfl) e26 e27 (congrArg pr e29) ?_
          refine g_astore (lv' := [(0, .ref a0), (1, .int x1), (2, .int x2), (3, .int x3), (4, .int x4), (5, .ref b5), (6, .ref b28)]) dX7_cost_57 (by decide) rfl ?_
          refine g_aload dX7_cost_59 6 rfl ?_
          obtain ⟨e30, K⟩ := K
          refine g_get (c := 2) (k := 6) (v := .int (hI h20 b28 6)) dX7_cost_61 fc_2 (by decide) (by decide) bw_73 rfl e30 ?_
          refine g_if_eq (tgt := 77) dX7_cost_64 (by decide) (fun c31 => ?_) (fun c31 => ?_)
          · replace K := K.1 c31
            exact g_throwW (cls := "java/lang/IllegalArgumentException") (text := "the car is out, or does not take that sort") (names := ["java/lang/RuntimeException", "java/lang/Exception"]) (by decide) (by decide) bw_689 bw_13 K.1.1 K.1.2 dX7_cost_77 dX7_cost_80 dX7_cost_81 dX7_cost_84 dX7_cost_87 (by decide) (Nat.le_of_ble_eq_true rfl) K.2.1 K.2.2.1 K.2.2.2
          · replace K := K.2 c31
            refine g_aload dX7_cost_67 6 rfl ?_
            refine g_iload dX7_cost_69 4 rfl ?_
            obtain ⟨q33, C34, K⟩ := K
            refine g_callV (M' := mX2_takes) (b := b28) (As := [.int x4]) (rest := []) (rc' := rc) (rs' := rs) dX7_cost_71 bw_1037 bw_549 bw_550 bw_4 bw_551 ⟨by decide +kernel, by decide +kernel, show (parseMethodDescriptor mX2_takes.1.desc).map (fun d => d.parameters.length) = some 1 by decide +kernel⟩ (by decide) (by decide) (Nat.le_of_ble_eq_true rfl) fc_2 (by decide) rfl e30 C34 (Nat.le_of_eq (Nat.add_zero _)) (Nat.le_of_eq (Nat.add_zero _)) (fun _ _ h => h) ?_
            rintro _ h35 ⟨r36, rfl, K1⟩ -
            replace K := K r36 h35 K1
            show Gm l x mX7_cost 8 74 [(0, .ref a0), (1, .int x1), (2, .int x2), (3, .int x3), (4, .int x4), (5, .ref b5), (6, .ref b28)] [.int r36] h35 rc rs n0 Q X
            refine g_if_ne (tgt := 88) dX7_cost_74 (by decide) (fun c37 => ?_) (fun c37 => ?_)
            · replace K := K.1 c37
              refine g_aload dX7_cost_88 5 rfl ?_
              refine g_aload dX7_cost_90 6 rfl ?_
              refine g_iload_n dX7_cost_92 rfl 2 rfl ?_
              refine g_iload_n dX7_cost_93 rfl 3 rfl ?_
              have KJ : Gm l x mX7_cost 8 102 [(0, .ref a0), (1, .int x1), (2, .int x2), (3, .int x3), (4, .int x4), (5, .ref b5), (6, .ref b28)] [.int (if x3 = 0 then (-1) else 1 : Int32), .int x2, .ref b28, .ref b5] h35 rc rs n0 Q X := by
                refine g_iload dX7_cost_102 4 rfl ?_
                obtain ⟨q39, C40, K⟩ := K
                refine g_callS (M' := mX7_callNumber) (As := [.int x2, .int (if x3 = 0 then (-1) else 1 : Int32), .int x4]) (rest := [.ref b28, .ref b5]) (rc' := rc) (rs' := rs) dX7_cost_104 bw_1027 bw_531 bw_1 bw_532 ⟨by decide +kernel, by decide +kernel, show (parseMethodDescriptor mX7_callNumber.1.desc).map (fun d => d.parameters.length) = some 3 by decide +kernel⟩ (by decide) (by decide) (Nat.le_of_ble_eq_true rfl) C40 (Nat.le_of_eq (Nat.add_zero _)) (Nat.le_of_eq (Nat.add_zero _)) (fun _ _ h => h) ?_
                rintro _ h41 ⟨r42, rfl, K1⟩ -
                replace K := K r42 h41 K1
                show Gm l x mX7_cost 8 107 [(0, .ref a0), (1, .int x1), (2, .int x2), (3, .int x3), (4, .int x4), (5, .ref b5), (6, .ref b28)] [.int r42, .ref b28, .ref b5] h41 rc rs n0 Q X
                obtain ⟨e45, K⟩ := K
                obtain ⟨q43, C44, K⟩ := K
                refine g_callV (M' := mX1_costOf) (b := b5) (As := [.ref b28, .int r42]) (rest := []) (rc' := rc) (rs' := rs) dX7_cost_107 bw_1039 bw_553 bw_554 bw_3 bw_555 ⟨by decide +kernel, by decide +kernel, show (parseMethodDescriptor mX1_costOf.1.desc).map (fun d => d.parameters.length) = some 2 by decide +kernel⟩ (by decide) (by decide) (Nat.le_of_ble_eq_true rfl) fc_1 (by decide) rfl e45 C44 (Nat.le_of_eq (Nat.add_zero _)) (Nat.le_of_eq (Nat.add_zero _)) (fun _ _ h => h) ?_
                rintro _ h46 ⟨r47, rfl, K1⟩ -
                replace K := K r47 h46 K1
                show Gm l x mX7_cost 8 110 [(0, .ref a0), (1, .int x1), (2, .int x2), (3, .int x3), (4, .int x4), (5, .ref b5), (6, .ref b28)] [.int r47] h46 rc rs n0 Q X
                exact g_iret dX7_cost_110 rfl K
              refine g_if_eq (tgt := 101) dX7_cost_94 (by decide) (fun c38 => ?_) (fun c38 => ?_)
              · refine g_iconst (v := (-1)) dX7_cost_101 (by decide) ?_
                first | (simp only [if_pos c38] at KJ; exact KJ) | (simp only [if_pos c38, ite_true, ite_false, eq_self] at KJ; exact KJ) | (simp only [if_pos c38] at KJ ⊢; exact KJ) | exact KJ
              · refine g_iconst (v := 1) dX7_cost_97 (by decide) ?_
                refine g_goto (tgt := 102) dX7_cost_98 (by decide) ?_
                first | (simp only [if_neg c38] at KJ; exact KJ) | (simp only [if_neg c38, ite_true, ite_false, eq_self] at KJ; exact KJ) | (simp only [if_neg c38] at KJ ⊢; exact KJ) | exact KJ
            · replace K := K.2 c37
              exact g_throwW (cls := "java/lang/IllegalArgumentException") (text := "the car is out, or does not take that sort") (names := ["java/lang/RuntimeException", "java/lang/Exception"]) (by decide) (by decide) bw_689 bw_13 K.1.1 K.1.2 dX7_cost_77 dX7_cost_80 dX7_cost_81 dX7_cost_84 dX7_cost_87 (by decide) (Nat.le_of_ble_eq_true rfl) K.2.1 K.2.2.1 K.2.2.2
        · replace K := K.2 c22
          exact g_throwW (cls := "java/util/NoSuchElementException") (text := "no such car, floor or sort") (names := ["java/lang/RuntimeException", "java/lang/Exception"]) (by decide) (by decide) bw_977 bw_22 K.1.1 K.1.2 dX7_cost_39 dX7_cost_42 dX7_cost_43 dX7_cost_46 dX7_cost_49 (by decide) (Nat.le_of_ble_eq_true rfl) K.2.1 K.2.2.1 K.2.2.2
theorem dX7_ahead_0 : decode cX7_ahead 0 = .ok (.iload_n 2, 1) := by decide +kernel
theorem dX7_ahead_1 : decode cX7_ahead 1 = .ok (.ifCond .lt 8, 3) := by decide +kernel
theorem dX7_ahead_4 : decode cX7_ahead 4 = .ok (.iload_n 2, 1) := by decide +kernel
theorem dX7_ahead_5 : decode cX7_ahead 5 = .ok (.iconst 3, 1) := by decide +kernel
theorem dX7_ahead_6 : decode cX7_ahead 6 = .ok (.if_icmp .le 14, 3) := by decide +kernel
theorem dX7_ahead_9 : decode cX7_ahead 9 = .ok (.new 175, 3) := by decide +kernel
theorem dX7_ahead_12 : decode cX7_ahead 12 = .ok (.dup, 1) := by decide +kernel
theorem dX7_ahead_13 : decode cX7_ahead 13 = .ok (.ldc_w 308, 3) := by decide +kernel
theorem dX7_ahead_16 : decode cX7_ahead 16 = .ok (.invokespecial 179, 3) := by decide +kernel
theorem dX7_ahead_19 : decode cX7_ahead 19 = .ok (.athrow, 1) := by decide +kernel
theorem dX7_ahead_20 : decode cX7_ahead 20 = .ok (.iload_n 1, 1) := by decide +kernel
theorem dX7_ahead_21 : decode cX7_ahead 21 = .ok (.ifCond .lt 9, 3) := by decide +kernel
theorem dX7_ahead_24 : decode cX7_ahead 24 = .ok (.iload_n 1, 1) := by decide +kernel
theorem dX7_ahead_25 : decode cX7_ahead 25 = .ok (.bipush 120, 2) := by decide +kernel
theorem dX7_ahead_27 : decode cX7_ahead 27 = .ok (.if_icmp .le 14, 3) := by decide +kernel
theorem dX7_ahead_30 : decode cX7_ahead 30 = .ok (.new 55, 3) := by decide +kernel
theorem dX7_ahead_33 : decode cX7_ahead 33 = .ok (.dup, 1) := by decide +kernel
theorem dX7_ahead_34 : decode cX7_ahead 34 = .ok (.ldc_w 310, 3) := by decide +kernel
theorem dX7_ahead_37 : decode cX7_ahead 37 = .ok (.invokespecial 59, 3) := by decide +kernel
theorem dX7_ahead_40 : decode cX7_ahead 40 = .ok (.athrow, 1) := by decide +kernel
theorem dX7_ahead_41 : decode cX7_ahead 41 = .ok (.aload_n 0, 1) := by decide +kernel
theorem dX7_ahead_42 : decode cX7_ahead 42 = .ok (.getfield 23, 3) := by decide +kernel
theorem dX7_ahead_45 : decode cX7_ahead 45 = .ok (.aload_n 0, 1) := by decide +kernel
theorem dX7_ahead_46 : decode cX7_ahead 46 = .ok (.getfield 37, 3) := by decide +kernel
theorem dX7_ahead_49 : decode cX7_ahead 49 = .ok (.getfield 81, 3) := by decide +kernel
theorem dX7_ahead_52 : decode cX7_ahead 52 = .ok (.invokevirtual 180, 3) := by decide +kernel
theorem dX7_ahead_55 : decode cX7_ahead 55 = .ok (.aload_n 0, 1) := by decide +kernel
theorem dX7_ahead_56 : decode cX7_ahead 56 = .ok (.getfield 23, 3) := by decide +kernel
theorem dX7_ahead_59 : decode cX7_ahead 59 = .ok (.iload_n 1, 1) := by decide +kernel
theorem dX7_ahead_60 : decode cX7_ahead 60 = .ok (.invokevirtual 187, 3) := by decide +kernel
theorem dX7_ahead_63 : decode cX7_ahead 63 = .ok (.iload_n 2, 1) := by decide +kernel
theorem dX7_ahead_64 : decode cX7_ahead 64 = .ok (.tableswitch 52 0 2 #[28, 36, 44], 28) := by decide +kernel
theorem dX7_ahead_92 : decode cX7_ahead 92 = .ok (.aload_n 0, 1) := by decide +kernel
theorem dX7_ahead_93 : decode cX7_ahead 93 = .ok (.getfield 23, 3) := by decide +kernel
theorem dX7_ahead_96 : decode cX7_ahead 96 = .ok (.getfield 114, 3) := by decide +kernel
theorem dX7_ahead_99 : decode cX7_ahead 99 = .ok (.ireturn, 1) := by decide +kernel
theorem dX7_ahead_100 : decode cX7_ahead 100 = .ok (.aload_n 0, 1) := by decide +kernel
theorem dX7_ahead_101 : decode cX7_ahead 101 = .ok (.getfield 23, 3) := by decide +kernel
theorem dX7_ahead_104 : decode cX7_ahead 104 = .ok (.invokevirtual 127, 3) := by decide +kernel
theorem dX7_ahead_107 : decode cX7_ahead 107 = .ok (.ireturn, 1) := by decide +kernel
theorem dX7_ahead_108 : decode cX7_ahead 108 = .ok (.aload_n 0, 1) := by decide +kernel
theorem dX7_ahead_109 : decode cX7_ahead 109 = .ok (.getfield 23, 3) := by decide +kernel
theorem dX7_ahead_112 : decode cX7_ahead 112 = .ok (.invokevirtual 131, 3) := by decide +kernel
theorem dX7_ahead_115 : decode cX7_ahead 115 = .ok (.ireturn, 1) := by decide +kernel
theorem dX7_ahead_116 : decode cX7_ahead 116 = .ok (.aload_n 0, 1) := by decide +kernel
theorem dX7_ahead_117 : decode cX7_ahead 117 = .ok (.getfield 23, 3) := by decide +kernel
theorem dX7_ahead_120 : decode cX7_ahead 120 = .ok (.invokevirtual 312, 3) := by decide +kernel
theorem dX7_ahead_123 : decode cX7_ahead 123 = .ok (.ireturn, 1) := by decide +kernel
set_option maxRecDepth 20000 in
set_option maxHeartbeats 4000000 in
theorem vX7_ahead_0 {l : Launch} {x : CX} {a0 : Nat} {x1 : Int32} {x2 : Int32} {h : PH} {rc rs n0 : Nat} {Q : Option Value → PH → Prop} {X : String → PH → Prop}
    (K : ((x2 < 0 → ThrowOk x RX7 "java/util/NoSuchElementException" "no such what of ahead" ["java/lang/RuntimeException", "java/lang/Exception"] 308 179 ∧ 1 ≤ rc ∧ 6 ≤ rs ∧ X "java/util/NoSuchElementException" h) ∧ (¬ x2 < 0 → ((x2 ≤ 3 → ((x1 < 0 → ThrowOk x RX7 "java/lang/IllegalArgumentException" "not so far ahead" ["java/lang/RuntimeException", "java/lang/Exception"] 310 59 ∧ 1 ≤ rc ∧ 6 ≤ rs ∧ X "java/lang/IllegalArgumentException" h) ∧ (¬ x1 < 0 → ((x1 ≤ 120 → ((hK h a0).1 = 7) ∧ ∃ b8, (hR h a0 2 = some b8) ∧ ∃ b10, (hR h a0 4 = some b10) ∧ ((hK h b10).1 = 3) ∧ ∃ b13, (hR h b10 0 = some b13) ∧ ((hK h b8).1 = 1) ∧ ∃ (q15 : PH → Prop), CV l x mX1_copyFrom 1 0 0 [.ref b8, .ref b13] h q15 ∧ ∀ (h18 : PH), q15 h18 → ((hK h18 a0).1 = 7) ∧ ∃ b20, (hR h18 a0 2 = some b20) ∧ ((hK h18 b20).1 = 1) ∧ ∃ (q22 : PH → Prop), CV l x mX1_pass 4 0 0 [.ref b20, .int x1] h18 q22 ∧ ∀ (h25 : PH), q22 h25 → ((x2.toInt = 0 → ((hK h25 a0).1 = 7) ∧ ∃ b28, (hR h25 a0 2 = some b28) ∧ ((hK h25 b28).1 = 1) ∧ Q (some (.int (hI h25 b28 12))) h25) ∧ (x2.toInt = 1 → ((hK h25 a0).1 = 7) ∧ ∃ b32, (hR h25 a0 2 = some b32) ∧ ((hK h25 b32).1 = 1) ∧ ∃ (q34 : Int32 → PH → Prop), CI l x mX1_passedInAll 0 0 0 [.ref b32] h25 q34 ∧ ∀ (r38 : Int32) (h37 : PH), q34 r38 h37 → Q (some (.int r38)) h37) ∧ (x2.toInt = 2 → ((hK h25 a0).1 = 7) ∧ ∃ b40, (hR h25 a0 2 = some b40) ∧ ((hK h25 b40).1 = 1) ∧ ∃ (q42 : Int32 → PH → Prop), CI l x mX1_waitedInAll 0 0 0 [.ref b40] h25 q42 ∧ ∀ (r46 : Int32) (h45 : PH), q42 r46 h45 → Q (some (.int r46)) h45) ∧ ((x2.toInt < 0 ∨ 2 < x2.toInt) → ((hK h25 a0).1 = 7) ∧ ∃ b48, (hR h25 a0 2 = some b48) ∧ ((hK h25 b48).1 = 1) ∧ ∃ (q50 : Int32 → PH → Prop), CI l x mX1_stopped 0 0 0 [.ref b48] h25 q50 ∧ ∀ (r54 : Int32) (h53 : PH), q50 r54 h53 → Q (some (.int r54)) h53))) ∧ (¬ x1 ≤ 120 → ThrowOk x RX7 "java/lang/IllegalArgumentException" "not so far ahead" ["java/lang/RuntimeException", "java/lang/Exception"] 310 59 ∧ 1 ≤ rc ∧ 6 ≤ rs ∧ X "java/lang/IllegalArgumentException" h))))) ∧ (¬ x2 ≤ 3 → ThrowOk x RX7 "java/util/NoSuchElementException" "no such what of ahead" ["java/lang/RuntimeException", "java/lang/Exception"] 308 179 ∧ 1 ≤ rc ∧ 6 ≤ rs ∧ X "java/util/NoSuchElementException" h))))) :
    Gm l x mX7_ahead 8 0 [(0, .ref a0), (1, .int x1), (2, .int x2)] [] h rc rs n0 Q X := by
  refine g_iload_n dX7_ahead_0 rfl 2 rfl ?_
  refine g_if_lt (tgt := 9) dX7_ahead_1 (by decide) (fun c1 => ?_) (fun c1 => ?_)
  · replace K := K.1 c1
    exact g_throwW (cls := "java/util/NoSuchElementException") (text := "no such what of ahead") (names := ["java/lang/RuntimeException", "java/lang/Exception"]) (by decide) (by decide) bw_977 bw_22 K.1.1 K.1.2 dX7_ahead_9 dX7_ahead_12 dX7_ahead_13 dX7_ahead_16 dX7_ahead_19 (by decide) (Nat.le_of_ble_eq_true rfl) K.2.1 K.2.2.1 K.2.2.2
  · replace K := K.2 c1
    refine g_iload_n dX7_ahead_4 rfl 2 rfl ?_
    refine g_iconst (v := 3) dX7_ahead_5 (by decide) ?_
    refine g_icmp_le (tgt := 20) dX7_ahead_6 (by decide) (fun c3 => ?_) (fun c3 => ?_)
    · replace K := K.1 c3
      refine g_iload_n dX7_ahead_20 rfl 1 rfl ?_
      refine g_if_lt (tgt := 30) dX7_ahead_21 (by decide) (fun c4 => ?_) (fun c4 => ?_)
      · replace K := K.1 c4
        exact g_throwW (cls := "java/lang/IllegalArgumentException") (text := "not so far ahead") (names := ["java/lang/RuntimeException", "java/lang/Exception"]) (by decide) (by decide) bw_689 bw_13 K.1.1 K.1.2 dX7_ahead_30 dX7_ahead_33 dX7_ahead_34 dX7_ahead_37 dX7_ahead_40 (by decide) (Nat.le_of_ble_eq_true rfl) K.2.1 K.2.2.1 K.2.2.2
      · replace K := K.2 c4
        refine g_iload_n dX7_ahead_24 rfl 1 rfl ?_
        refine g_bipush (v := 120) dX7_ahead_25 (by decide) ?_
        refine g_icmp_le (tgt := 41) dX7_ahead_27 (by decide) (fun c6 => ?_) (fun c6 => ?_)
        · replace K := K.1 c6
          refine g_aload_n dX7_ahead_41 rfl 0 rfl ?_
          obtain ⟨e7, b8, e9, K⟩ := K
          refine g_get (c := 7) (k := 2) (v := .ref b8) dX7_ahead_42 fc_7 (by decide) (by decide) bw_404 (congrArg pr e9) e7 ?_
          refine g_aload_n dX7_ahead_45 rfl 0 rfl ?_
          obtain ⟨b10, e11, K⟩ := K
          refine g_get (c := 7) (k := 4) (v := .ref b10) dX7_ahead_46 fc_7 (by decide) (by decide) bw_406 (congrArg pr e11) e7 ?_
          obtain ⟨e12, b13, e14, K⟩ := K
          refine g_get (c := 3) (k := 0) (v := .ref b13) dX7_ahead_49 fc_3 (by decide) (by decide) bw_378 (congrArg pr e14) e12 ?_
          obtain ⟨e17, K⟩ := K
          obtain ⟨q15, C16, K⟩ := K
          refine g_callV (M' := mX1_copyFrom) (b := b8) (As := [.ref b13]) (rest := []) (rc' := rc) (rs' := rs) dX7_ahead_52 bw_975 bw_454 bw_455 bw_3 bw_456 ⟨by decide +kernel, by decide +kernel, show (parseMethodDescriptor mX1_copyFrom.1.desc).map (fun d => d.parameters.length) = some 1 by decide +kernel⟩ (by decide) (by decide) (Nat.le_of_ble_eq_true rfl) fc_1 (by decide) rfl e17 C16 (Nat.le_of_eq (Nat.add_zero _)) (Nat.le_of_eq (Nat.add_zero _)) (fun _ _ h => h) ?_
          rintro _ h18 ⟨rfl, K1⟩ -
          replace K := K h18 K1
          show Gm l x mX7_ahead 8 55 [(0, .ref a0), (1, .int x1), (2, .int x2)] [] h18 rc rs n0 Q X
          refine g_aload_n dX7_ahead_55 rfl 0 rfl ?_
          obtain ⟨e19, b20, e21, K⟩ := K
          refine g_get (c := 7) (k := 2) (v := .ref b20) dX7_ahead_56 fc_7 (by decide) (by decide) bw_404 (congrArg pr e21) e19 ?_
          refine g_iload_n dX7_ahead_59 rfl 1 rfl ?_
          obtain ⟨e24, K⟩ := K
          obtain ⟨q22, C23, K⟩ := K
          refine g_callV (M' := mX1_pass) (b := b20) (As := [.int x1]) (rest := []) (rc' := rc) (rs' := rs) dX7_ahead_60 bw_465 bw_466 bw_467 bw_3 bw_468 ⟨by decide +kernel, by decide +kernel, show (parseMethodDescriptor mX1_pass.1.desc).map (fun d => d.parameters.length) = some 1 by decide +kernel⟩ (by decide) (by decide) (Nat.le_of_ble_eq_true rfl) fc_1 (by decide) rfl e24 C23 (Nat.le_of_eq (Nat.add_zero _)) (Nat.le_of_eq (Nat.add_zero _)) (fun _ _ h => h) ?_
          rintro _ h25 ⟨rfl, K1⟩ -
          replace K := K h25 K1
          show Gm l x mX7_ahead 8 63 [(0, .ref a0), (1, .int x1), (2, .int x2)] [] h25 rc rs n0 Q X
          refine g_iload_n dX7_ahead_63 rfl 2 rfl ?_
          by_cases e26 : 0 ≤ x2.toInt ∧ x2.toInt ≤ 2
          · have e_or : x2.toInt = 0 ∨ x2.toInt = 1 ∨ x2.toInt = 2 := by omega
            rcases e_or with e_s | e_s | e_s
            · replace K := K.1 e_s
              refine g_tableIn (off := 28) (tgt := 92) dX7_ahead_64 (by omega) (by omega) (by rw [e_s]; rfl) (by decide) ?_
              refine g_aload_n dX7_ahead_92 rfl 0 rfl ?_
              obtain ⟨e27, b28, e29, K⟩ := K
              refine g_get (c := 7) (k := 2) (v := .ref b28) dX7_ahead_93 fc_7 (by decide) (by decide) bw_404 (congrArg pr e29) e27 ?_
              obtain ⟨e30, K⟩ := K
              refine g_get (c := 1) (k := 12) (v := .int (hI h25 b28 12)) dX7_ahead_96 fc_1 (by decide) (by decide) bw_222 rfl e30 ?_
              exact g_iret dX7_ahead_99 rfl K
            · replace K := K.2.1 e_s
              refine g_tableIn (off := 36) (tgt := 100) dX7_ahead_64 (by omega) (by omega) (by rw [e_s]; rfl) (by decide) ?_
              refine g_aload_n dX7_ahead_100 rfl 0 rfl ?_
              obtain ⟨e31, b32, e33, K⟩ := K
              refine g_get (c := 7) (k := 2) (v := .ref b32) dX7_ahead_101 fc_7 (by decide) (by decide) bw_404 (congrArg pr e33) e31 ?_
              obtain ⟨e36, K⟩ := K
              obtain ⟨q34, C35, K⟩ := K
              refine g_callV (M' := mX1_passedInAll) (b := b32) (As := []) (rest := []) (rc' := rc) (rs' := rs) dX7_ahead_104 bw_913 bw_914 bw_915 bw_3 bw_916 ⟨by decide +kernel, by decide +kernel, show (parseMethodDescriptor mX1_passedInAll.1.desc).map (fun d => d.parameters.length) = some 0 by decide +kernel⟩ (by decide) (by decide) (Nat.le_of_ble_eq_true rfl) fc_1 (by decide) rfl e36 C35 (Nat.le_of_eq (Nat.add_zero _)) (Nat.le_of_eq (Nat.add_zero _)) (fun _ _ h => h) ?_
              rintro _ h37 ⟨r38, rfl, K1⟩ -
              replace K := K r38 h37 K1
              show Gm l x mX7_ahead 8 107 [(0, .ref a0), (1, .int x1), (2, .int x2)] [.int r38] h37 rc rs n0 Q X
              exact g_iret dX7_ahead_107 rfl K
            · replace K := K.2.2.1 e_s
              refine g_tableIn (off := 44) (tgt := 108) dX7_ahead_64 (by omega) (by omega) (by rw [e_s]; rfl) (by decide) ?_
              refine g_aload_n dX7_ahead_108 rfl 0 rfl ?_
              obtain ⟨e39, b40, e41, K⟩ := K
              refine g_get (c := 7) (k := 2) (v := .ref b40) dX7_ahead_109 fc_7 (by decide) (by decide) bw_404 (congrArg pr e41) e39 ?_
              obtain ⟨e44, K⟩ := K
              obtain ⟨q42, C43, K⟩ := K
              refine g_callV (M' := mX1_waitedInAll) (b := b40) (As := []) (rest := []) (rc' := rc) (rs' := rs) dX7_ahead_112 bw_917 bw_918 bw_919 bw_3 bw_920 ⟨by decide +kernel, by decide +kernel, show (parseMethodDescriptor mX1_waitedInAll.1.desc).map (fun d => d.parameters.length) = some 0 by decide +kernel⟩ (by decide) (by decide) (Nat.le_of_ble_eq_true rfl) fc_1 (by decide) rfl e44 C43 (Nat.le_of_eq (Nat.add_zero _)) (Nat.le_of_eq (Nat.add_zero _)) (fun _ _ h => h) ?_
              rintro _ h45 ⟨r46, rfl, K1⟩ -
              replace K := K r46 h45 K1
              show Gm l x mX7_ahead 8 115 [(0, .ref a0), (1, .int x1), (2, .int x2)] [.int r46] h45 rc rs n0 Q X
              exact g_iret dX7_ahead_115 rfl K
          · replace K := K.2.2.2 (by omega)
            refine g_tableOut (tgt := 116) dX7_ahead_64 (by omega) (by decide) ?_
            refine g_aload_n dX7_ahead_116 rfl 0 rfl ?_
            obtain ⟨e47, b48, e49, K⟩ := K
            refine g_get (c := 7) (k := 2) (v := .ref b48) dX7_ahead_117 fc_7 (by decide) (by decide) bw_404 (congrArg pr e49) e47 ?_
            obtain ⟨e52, K⟩ := K
            obtain ⟨q50, C51, K⟩ := K
            refine g_callV (M' := mX1_stopped) (b := b48) (As := []) (rest := []) (rc' := rc) (rs' := rs) dX7_ahead_120 bw_1049 bw_1050 bw_1051 bw_3 bw_1052 ⟨by decide +kernel, by decide +kernel, show (parseMethodDescriptor mX1_stopped.1.desc).map (fun d => d.parameters.length) = some 0 by decide +kernel⟩ (by decide) (by decide) (Nat.le_of_ble_eq_true rfl) fc_1 (by decide) rfl e52 C51 (Nat.le_of_eq (Nat.add_zero _)) (Nat.le_of_eq (Nat.add_zero _)) (fun _ _ h => h) ?_
            rintro _ h53 ⟨r54, rfl, K1⟩ -
            replace K := K r54 h53 K1
            show Gm l x mX7_ahead 8 123 [(0, .ref a0), (1, .int x1), (2, .int x2)] [.int r54] h53 rc rs n0 Q X
            exact g_iret dX7_ahead_123 rfl K
        · replace K := K.2 c6
          exact g_throwW (cls := "java/lang/IllegalArgumentException") (text := "not so far ahead") (names := ["java/lang/RuntimeException", "java/lang/Exception"]) (by decide) (by decide) bw_689 bw_13 K.1.1 K.1.2 dX7_ahead_30 dX7_ahead_33 dX7_ahead_34 dX7_ahead_37 dX7_ahead_40 (by decide) (Nat.le_of_ble_eq_true rfl) K.2.1 K.2.2.1 K.2.2.2
    · replace K := K.2 c3
      exact g_throwW (cls := "java/util/NoSuchElementException") (text := "no such what of ahead") (names := ["java/lang/RuntimeException", "java/lang/Exception"]) (by decide) (by decide) bw_977 bw_22 K.1.1 K.1.2 dX7_ahead_9 dX7_ahead_12 dX7_ahead_13 dX7_ahead_16 dX7_ahead_19 (by decide) (Nat.le_of_ble_eq_true rfl) K.2.1 K.2.2.1 K.2.2.2
theorem dX7_when_0 : decode cX7_when 0 = .ok (.aload_n 0, 1) := by decide +kernel
theorem dX7_when_1 : decode cX7_when 1 = .ok (.getfield 37, 3) := by decide +kernel
theorem dX7_when_4 : decode cX7_when 4 = .ok (.getfield 81, 3) := by decide +kernel
theorem dX7_when_7 : decode cX7_when 7 = .ok (.astore_n 2, 1) := by decide +kernel
theorem dX7_when_8 : decode cX7_when 8 = .ok (.iload_n 1, 1) := by decide +kernel
theorem dX7_when_9 : decode cX7_when 9 = .ok (.ifCond .lt 11, 3) := by decide +kernel
theorem dX7_when_12 : decode cX7_when 12 = .ok (.iload_n 1, 1) := by decide +kernel
theorem dX7_when_13 : decode cX7_when 13 = .ok (.aload_n 2, 1) := by decide +kernel
theorem dX7_when_14 : decode cX7_when 14 = .ok (.getfield 90, 3) := by decide +kernel
theorem dX7_when_17 : decode cX7_when 17 = .ok (.if_icmp .lt 13, 3) := by decide +kernel
theorem dX7_when_20 : decode cX7_when 20 = .ok (.new 175, 3) := by decide +kernel
theorem dX7_when_23 : decode cX7_when 23 = .ok (.dup, 1) := by decide +kernel
theorem dX7_when_24 : decode cX7_when 24 = .ok (.ldc 235, 2) := by decide +kernel
theorem dX7_when_26 : decode cX7_when 26 = .ok (.invokespecial 179, 3) := by decide +kernel
theorem dX7_when_29 : decode cX7_when 29 = .ok (.athrow, 1) := by decide +kernel
theorem dX7_when_30 : decode cX7_when 30 = .ok (.aload_n 0, 1) := by decide +kernel
theorem dX7_when_31 : decode cX7_when 31 = .ok (.getfield 23, 3) := by decide +kernel
theorem dX7_when_34 : decode cX7_when 34 = .ok (.aload_n 2, 1) := by decide +kernel
theorem dX7_when_35 : decode cX7_when 35 = .ok (.invokevirtual 180, 3) := by decide +kernel
theorem dX7_when_38 : decode cX7_when 38 = .ok (.aload_n 0, 1) := by decide +kernel
theorem dX7_when_39 : decode cX7_when 39 = .ok (.getfield 23, 3) := by decide +kernel
theorem dX7_when_42 : decode cX7_when 42 = .ok (.getfield 237, 3) := by decide +kernel
theorem dX7_when_45 : decode cX7_when 45 = .ok (.iload_n 1, 1) := by decide +kernel
theorem dX7_when_46 : decode cX7_when 46 = .ok (.aaload, 1) := by decide +kernel
theorem dX7_when_47 : decode cX7_when 47 = .ok (.astore_n 3, 1) := by decide +kernel
theorem dX7_when_48 : decode cX7_when 48 = .ok (.iconst 0, 1) := by decide +kernel
theorem dX7_when_49 : decode cX7_when 49 = .ok (.istore 4, 2) := by decide +kernel
theorem dX7_when_51 : decode cX7_when 51 = .ok (.iload 4, 2) := by decide +kernel
theorem dX7_when_53 : decode cX7_when 53 = .ok (.sipush 200, 3) := by decide +kernel
theorem dX7_when_56 : decode cX7_when 56 = .ok (.if_icmp .ge 25, 3) := by decide +kernel
theorem dX7_when_59 : decode cX7_when 59 = .ok (.aload_n 3, 1) := by decide +kernel
theorem dX7_when_60 : decode cX7_when 60 = .ok (.getfield 251, 3) := by decide +kernel
theorem dX7_when_63 : decode cX7_when 63 = .ok (.iconst 3, 1) := by decide +kernel
theorem dX7_when_64 : decode cX7_when 64 = .ok (.if_icmp .eq 17, 3) := by decide +kernel
theorem dX7_when_67 : decode cX7_when 67 = .ok (.aload_n 0, 1) := by decide +kernel
theorem dX7_when_68 : decode cX7_when 68 = .ok (.getfield 23, 3) := by decide +kernel
theorem dX7_when_71 : decode cX7_when 71 = .ok (.iconst 1, 1) := by decide +kernel
theorem dX7_when_72 : decode cX7_when 72 = .ok (.invokevirtual 187, 3) := by decide +kernel
theorem dX7_when_75 : decode cX7_when 75 = .ok (.iinc 4 1, 3) := by decide +kernel
theorem dX7_when_78 : decode cX7_when 78 = .ok (.goto (-27), 3) := by decide +kernel
theorem dX7_when_81 : decode cX7_when 81 = .ok (.aload_n 3, 1) := by decide +kernel
theorem dX7_when_82 : decode cX7_when 82 = .ok (.getfield 260, 3) := by decide +kernel
theorem dX7_when_85 : decode cX7_when 85 = .ok (.ireturn, 1) := by decide +kernel
set_option maxRecDepth 20000 in
set_option maxHeartbeats 4000000 in
theorem vX7_when_0 {l : Launch} {x : CX} {a0 : Nat} {x1 : Int32} {h : PH} {rc rs n0 : Nat} {Q : Option Value → PH → Prop} {X : String → PH → Prop}
    (K : ((hK h a0).1 = 7) ∧ ∃ b2, (hR h a0 4 = some b2) ∧ ((hK h b2).1 = 3) ∧ ∃ b5, (hR h b2 0 = some b5) ∧ ((x1 < 0 → ThrowOk x RX7 "java/util/NoSuchElementException" "no such rider" ["java/lang/RuntimeException", "java/lang/Exception"] 235 179 ∧ 1 ≤ rc ∧ 6 ≤ rs ∧ X "java/util/NoSuchElementException" h) ∧ (¬ x1 < 0 → ((hK h b5).1 = 1) ∧ ((x1 < (hI h b5 2) → ∃ b11, (hR h a0 2 = some b11) ∧ ((hK h b11).1 = 1) ∧ ∃ (q13 : PH → Prop), CV l x mX1_copyFrom 1 0 0 [.ref b11, .ref b5] h q13 ∧ ∀ (h16 : PH), q13 h16 → ((hK h16 a0).1 = 7) ∧ ∃ b18, (hR h16 a0 2 = some b18) ∧ ((hK h16 b18).1 = 1) ∧ ∃ b21, (hR h16 b18 14 = some b21) ∧ ((hK h16 b21).1 = 106) ∧ (vp_in x1 (hK h16 b21).2) ∧ ∃ b25, (hR h16 b21 x1.toNatClampNeg = some b25) ∧ Gm l x mX7_when 8 51 [(0, .ref a0), (1, .int x1), (2, .ref b5), (3, .ref b25), (4, .int 0)] [] h16 rc rs n0 Q X) ∧ (¬ x1 < (hI h b5 2) → ThrowOk x RX7 "java/util/NoSuchElementException" "no such rider" ["java/lang/RuntimeException", "java/lang/Exception"] 235 179 ∧ 1 ≤ rc ∧ 6 ≤ rs ∧ X "java/util/NoSuchElementException" h))))) :
    Gm l x mX7_when 8 0 [(0, .ref a0), (1, .int x1)] [] h rc rs n0 Q X := by
  refine g_aload_n dX7_when_0 rfl 0 rfl ?_
  obtain ⟨e1, b2, e3, K⟩ := K
  refine g_get (c := 7) (k := 4) (v := .ref b2) dX7_when_1 fc_7 (by decide) (by decide) bw_406 (congrArg pr e3) e1 ?_
  obtain ⟨e4, b5, e6, K⟩ := K
  refine g_get (c := 3) (k := 0) (v := .ref b5) dX7_when_4 fc_3 (by decide) (by decide) bw_378 (congrArg pr e6) e4 ?_
  refine g_astore_n (lv' := [(0, .ref a0), (1, .int x1), (2, .ref b5)]) dX7_when_7 rfl (by decide) rfl ?_
  refine g_iload_n dX7_when_8 rfl 1 rfl ?_
  refine g_if_lt (tgt := 20) dX7_when_9 (by decide) (fun c7 => ?_) (fun c7 => ?_)
  · replace K := K.1 c7
    exact g_throw (cls := "java/util/NoSuchElementException") (text := "no such rider") (names := ["java/lang/RuntimeException", "java/lang/Exception"]) (by decide) (by decide) bw_977 bw_22 K.1.1 K.1.2 dX7_when_20 dX7_when_23 dX7_when_24 dX7_when_26 dX7_when_29 (by decide) (Nat.le_of_ble_eq_true rfl) K.2.1 K.2.2.1 K.2.2.2
  · replace K := K.2 c7
    refine g_iload_n dX7_when_12 rfl 1 rfl ?_
    refine g_aload_n dX7_when_13 rfl 2 rfl ?_
    obtain ⟨e9, K⟩ := K
    refine g_get (c := 1) (k := 2) (v := .int (hI h b5 2)) dX7_when_14 fc_1 (by decide) (by decide) bw_194 rfl e9 ?_
    refine g_icmp_lt (tgt := 30) dX7_when_17 (by decide) (fun c10 => ?_) (fun c10 => ?_)
    · replace K := K.1 c10
      refine g_aload_n dX7_when_30 rfl 0 rfl ?_
      obtain ⟨b11, e12, K⟩ := K
      refine g_get (c := 7) (k := 2) (v := .ref b11) dX7_when_31 fc_7 (by decide) (by decide) bw_404 (congrArg pr e12) e1 ?_
      refine g_aload_n dX7_when_34 rfl 2 rfl ?_
      obtain ⟨e15, K⟩ := K
      obtain ⟨q13, C14, K⟩ := K
      refine g_callV (M' := mX1_copyFrom) (b := b11) (As := [.ref b5]) (rest := []) (rc' := rc) (rs' := rs) dX7_when_35 bw_975 bw_454 bw_455 bw_3 bw_456 ⟨by decide +kernel, by decide +kernel, show (parseMethodDescriptor mX1_copyFrom.1.desc).map (fun d => d.parameters.length) = some 1 by decide +kernel⟩ (by decide) (by decide) (Nat.le_of_ble_eq_true rfl) fc_1 (by decide) rfl e15 C14 (Nat.le_of_eq (Nat.add_zero _)) (Nat.le_of_eq (Nat.add_zero _)) (fun _ _ h => h) ?_
      rintro _ h16 ⟨rfl, K1⟩ -
      replace K := K h16 K1
      show Gm l x mX7_when 8 38 [(0, .ref a0), (1, .int x1), (2, .ref b5)] [] h16 rc rs n0 Q X
      refine g_aload_n dX7_when_38 rfl 0 rfl ?_
      obtain ⟨e17, b18, e19, K⟩ := K
      refine g_get (c := 7) (k := 2) (v := .ref b18) dX7_when_39 fc_7 (by decide) (by decide) bw_404 (congrArg pr e19) e17 ?_
      obtain ⟨e20, b21, e22, K⟩ := K
      refine g_get (c := 1) (k := 14) (v := .ref b21) dX7_when_42 fc_1 (by decide) (by decide) bw_228 (congrArg pr e22) e20 ?_
      refine g_iload_n dX7_when_45 rfl 1 rfl ?_
      obtain ⟨e23, e24, b25, e26, K⟩ := K
      refine g_aald (t := 6) (v := .ref b25) dX7_when_46 (Or.inr (Or.inl rfl)) e23 e24 (congrArg pr e26) ?_
      refine g_astore_n (lv' := [(0, .ref a0), (1, .int x1), (2, .ref b5), (3, .ref b25)]) dX7_when_47 rfl (by decide) rfl ?_
      refine g_iconst (v := 0) dX7_when_48 (by decide) ?_
      refine g_istore (lv' := [(0, .ref a0), (1, .int x1), (2, .ref b5), (3, .ref b25), (4, .int 0)]) dX7_when_49 (by decide) rfl ?_
      exact K
    · replace K := K.2 c10
      exact g_throw (cls := "java/util/NoSuchElementException") (text := "no such rider") (names := ["java/lang/RuntimeException", "java/lang/Exception"]) (by decide) (by decide) bw_977 bw_22 K.1.1 K.1.2 dX7_when_20 dX7_when_23 dX7_when_24 dX7_when_26 dX7_when_29 (by decide) (Nat.le_of_ble_eq_true rfl) K.2.1 K.2.2.1 K.2.2.2
set_option maxRecDepth 20000 in
set_option maxHeartbeats 4000000 in
theorem vX7_when_51 {l : Launch} {x : CX} {a0 : Nat} {x1 : Int32} {a2 : Nat} {a3 : Nat} {x4 : Int32} {h : PH} {rc rs n0 : Nat} {Q : Option Value → PH → Prop} {X : String → PH → Prop}
    (K : ((200 ≤ x4 → ((hK h a3).1 = 6) ∧ Q (some (.int (hI h a3 9))) h) ∧ (¬ 200 ≤ x4 → ((hK h a3).1 = 6) ∧ (((hI h a3 4) = 3 → Q (some (.int (hI h a3 9))) h) ∧ (¬ (hI h a3 4) = 3 → ((hK h a0).1 = 7) ∧ ∃ b6, (hR h a0 2 = some b6) ∧ ((hK h b6).1 = 1) ∧ ∃ (q8 : PH → Prop), CV l x mX1_pass 4 0 0 [.ref b6, .int 1] h q8 ∧ ∀ (h11 : PH), q8 h11 → Gm l x mX7_when 8 51 [(0, .ref a0), (1, .int x1), (2, .ref a2), (3, .ref a3), (4, .int (x4 + 1))] [] h11 rc rs n0 Q X))))) :
    Gm l x mX7_when 8 51 [(0, .ref a0), (1, .int x1), (2, .ref a2), (3, .ref a3), (4, .int x4)] [] h rc rs n0 Q X := by
  refine g_iload dX7_when_51 4 rfl ?_
  refine g_sipush (v := 200) dX7_when_53 (by decide) ?_
  refine g_icmp_ge (tgt := 81) dX7_when_56 (by decide) (fun c1 => ?_) (fun c1 => ?_)
  · replace K := K.1 c1
    refine g_aload_n dX7_when_81 rfl 3 rfl ?_
    obtain ⟨e2, K⟩ := K
    refine g_get (c := 6) (k := 9) (v := .int (hI h a3 9)) dX7_when_82 fc_6 (by decide) (by decide) bw_162 rfl e2 ?_
    exact g_iret dX7_when_85 rfl K
  · replace K := K.2 c1
    refine g_aload_n dX7_when_59 rfl 3 rfl ?_
    obtain ⟨e3, K⟩ := K
    refine g_get (c := 6) (k := 4) (v := .int (hI h a3 4)) dX7_when_60 fc_6 (by decide) (by decide) bw_145 rfl e3 ?_
    refine g_iconst (v := 3) dX7_when_63 (by decide) ?_
    refine g_icmp_eq (tgt := 81) dX7_when_64 (by decide) (fun c4 => ?_) (fun c4 => ?_)
    · replace K := K.1 c4
      refine g_aload_n dX7_when_81 rfl 3 rfl ?_
      refine g_get (c := 6) (k := 9) (v := .int (hI h a3 9)) dX7_when_82 fc_6 (by decide) (by decide) bw_162 rfl e3 ?_
      exact g_iret dX7_when_85 rfl K
    · replace K := K.2 c4
      refine g_aload_n dX7_when_67 rfl 0 rfl ?_
      obtain ⟨e5, b6, e7, K⟩ := K
      refine g_get (c := 7) (k := 2) (v := .ref b6) dX7_when_68 fc_7 (by decide) (by decide) bw_404 (congrArg pr e7) e5 ?_
      refine g_iconst (v := 1) dX7_when_71 (by decide) ?_
      obtain ⟨e10, K⟩ := K
      obtain ⟨q8, C9, K⟩ := K
      refine g_callV (M' := mX1_pass) (b := b6) (As := [.int 1]) (rest := []) (rc' := rc) (rs' := rs) dX7_when_72 bw_465 bw_466 bw_467 bw_3 bw_468 ⟨by decide +kernel, by decide +kernel, show (parseMethodDescriptor mX1_pass.1.desc).map (fun d => d.parameters.length) = some 1 by decide +kernel⟩ (by decide) (by decide) (Nat.le_of_ble_eq_true rfl) fc_1 (by decide) rfl e10 C9 (Nat.le_of_eq (Nat.add_zero _)) (Nat.le_of_eq (Nat.add_zero _)) (fun _ _ h => h) ?_
      rintro _ h11 ⟨rfl, K1⟩ -
      replace K := K h11 K1
      show Gm l x mX7_when 8 75 [(0, .ref a0), (1, .int x1), (2, .ref a2), (3, .ref a3), (4, .int x4)] [] h11 rc rs n0 Q X
      refine g_iinc (v := (x4 + 1)) (lv' := [(0, .ref a0), (1, .int x1), (2, .ref a2), (3, .ref a3), (4, .int (x4 + 1))]) dX7_when_75 4 rfl (by rfl) (by decide) rfl ?_
      refine g_goto (tgt := 51) dX7_when_78 (by decide) ?_
      exact K
theorem dX7_mean_0 : decode cX7_mean 0 = .ok (.iload_n 1, 1) := by decide +kernel
theorem dX7_mean_1 : decode cX7_mean 1 = .ok (.invokestatic 315, 3) := by decide +kernel
theorem dX7_mean_4 : decode cX7_mean 4 = .ok (.ifCond .eq 10, 3) := by decide +kernel
theorem dX7_mean_7 : decode cX7_mean 7 = .ok (.iload_n 2, 1) := by decide +kernel
theorem dX7_mean_8 : decode cX7_mean 8 = .ok (.invokestatic 318, 3) := by decide +kernel
theorem dX7_mean_11 : decode cX7_mean 11 = .ok (.ifCond .ne 14, 3) := by decide +kernel
theorem dX7_mean_14 : decode cX7_mean 14 = .ok (.new 55, 3) := by decide +kernel
theorem dX7_mean_17 : decode cX7_mean 17 = .ok (.dup, 1) := by decide +kernel
theorem dX7_mean_18 : decode cX7_mean 18 = .ok (.ldc_w 321, 3) := by decide +kernel
theorem dX7_mean_21 : decode cX7_mean 21 = .ok (.invokespecial 59, 3) := by decide +kernel
theorem dX7_mean_24 : decode cX7_mean 24 = .ok (.athrow, 1) := by decide +kernel
theorem dX7_mean_25 : decode cX7_mean 25 = .ok (.aload_n 0, 1) := by decide +kernel
theorem dX7_mean_26 : decode cX7_mean 26 = .ok (.getfield 30, 3) := by decide +kernel
theorem dX7_mean_29 : decode cX7_mean 29 = .ok (.getfield 323, 3) := by decide +kernel
theorem dX7_mean_32 : decode cX7_mean 32 = .ok (.getfield 90, 3) := by decide +kernel
theorem dX7_mean_35 : decode cX7_mean 35 = .ok (.istore_n 3, 1) := by decide +kernel
theorem dX7_mean_36 : decode cX7_mean 36 = .ok (.iload_n 3, 1) := by decide +kernel
theorem dX7_mean_37 : decode cX7_mean 37 = .ok (.ifCond .ne 5, 3) := by decide +kernel
theorem dX7_mean_40 : decode cX7_mean 40 = .ok (.iconst 0, 1) := by decide +kernel
theorem dX7_mean_41 : decode cX7_mean 41 = .ok (.ireturn, 1) := by decide +kernel
theorem dX7_mean_42 : decode cX7_mean 42 = .ok (.aload_n 0, 1) := by decide +kernel
theorem dX7_mean_43 : decode cX7_mean 43 = .ok (.getfield 30, 3) := by decide +kernel
theorem dX7_mean_46 : decode cX7_mean 46 = .ok (.getfield 326, 3) := by decide +kernel
theorem dX7_mean_49 : decode cX7_mean 49 = .ok (.aload_n 0, 1) := by decide +kernel
theorem dX7_mean_50 : decode cX7_mean 50 = .ok (.getfield 30, 3) := by decide +kernel
theorem dX7_mean_53 : decode cX7_mean 53 = .ok (.iload_n 1, 1) := by decide +kernel
theorem dX7_mean_54 : decode cX7_mean 54 = .ok (.iload_n 2, 1) := by decide +kernel
theorem dX7_mean_55 : decode cX7_mean 55 = .ok (.invokevirtual 328, 3) := by decide +kernel
theorem dX7_mean_58 : decode cX7_mean 58 = .ok (.iaload, 1) := by decide +kernel
theorem dX7_mean_59 : decode cX7_mean 59 = .ok (.istore 4, 2) := by decide +kernel
theorem dX7_mean_61 : decode cX7_mean 61 = .ok (.iload 4, 2) := by decide +kernel
theorem dX7_mean_63 : decode cX7_mean 63 = .ok (.i2f, 1) := by decide +kernel
theorem dX7_mean_64 : decode cX7_mean 64 = .ok (.iload_n 3, 1) := by decide +kernel
theorem dX7_mean_65 : decode cX7_mean 65 = .ok (.i2f, 1) := by decide +kernel
theorem dX7_mean_66 : decode cX7_mean 66 = .ok (.fdiv, 1) := by decide +kernel
theorem dX7_mean_67 : decode cX7_mean 67 = .ok (.invokestatic 229, 3) := by decide +kernel
theorem dX7_mean_70 : decode cX7_mean 70 = .ok (.ireturn, 1) := by decide +kernel
set_option maxRecDepth 20000 in
set_option maxHeartbeats 4000000 in
theorem vX7_mean_0 {l : Launch} {x : CX} {a0 : Nat} {x1 : Int32} {x2 : Int32} {h : PH} {rc rs n0 : Nat} {Q : Option Value → PH → Prop} {X : String → PH → Prop}
    (K : ∃ (q1 : Int32 → PH → Prop), CI l x mX7_isPolicy 0 0 0 [.int x1] h q1 ∧ ∀ (r4 : Int32) (h3 : PH), q1 r4 h3 → ((r4 = 0 → ThrowOk x RX7 "java/lang/IllegalArgumentException" "no such policy or late" ["java/lang/RuntimeException", "java/lang/Exception"] 321 59 ∧ 1 ≤ rc ∧ 6 ≤ rs ∧ X "java/lang/IllegalArgumentException" h3) ∧ (¬ r4 = 0 → ∃ (q7 : Int32 → PH → Prop), CI l x mX7_isLate 0 0 0 [.int x2] h3 q7 ∧ ∀ (r10 : Int32) (h9 : PH), q7 r10 h9 → ((¬ r10 = 0 → ((hK h9 a0).1 = 7) ∧ ∃ b13, (hR h9 a0 3 = some b13) ∧ ((hK h9 b13).1 = 5) ∧ ∃ b16, (hR h9 b13 0 = some b16) ∧ ((hK h9 b16).1 = 1) ∧ ((¬ (hI h9 b16 2) = 0 → ∃ b20, (hR h9 b13 3 = some b20) ∧ ∃ (q22 : Int32 → PH → Prop), CI l x mX5_run 5 0 0 [.ref b13, .int x1, .int x2] h9 q22 ∧ ∀ (r25 : Int32) (h24 : PH), q22 r25 h24 → ((hK h24 b20).1 = 100) ∧ (vp_in r25 (hK h24 b20).2) ∧ (vf_n32 (FP.fdiv (FP.i2f (hI h24 b20 r25.toNatClampNeg)) (FP.i2f (hI h9 b16 2)))) ∧ ∃ (q29 : Int32 → PH → Prop), CI l x mX7_bitsOf 0 0 0 [.float (FP.fdiv (FP.i2f (hI h24 b20 r25.toNatClampNeg)) (FP.i2f (hI h9 b16 2)))] h24 q29 ∧ ∀ (r32 : Int32) (h31 : PH), q29 r32 h31 → Q (some (.int r32)) h31) ∧ ((hI h9 b16 2) = 0 → Q (some (.int 0)) h9))) ∧ (r10 = 0 → ThrowOk x RX7 "java/lang/IllegalArgumentException" "no such policy or late" ["java/lang/RuntimeException", "java/lang/Exception"] 321 59 ∧ 1 ≤ rc ∧ 6 ≤ rs ∧ X "java/lang/IllegalArgumentException" h9))))) :
    Gm l x mX7_mean 8 0 [(0, .ref a0), (1, .int x1), (2, .int x2)] [] h rc rs n0 Q X := by
  refine g_iload_n dX7_mean_0 rfl 1 rfl ?_
  obtain ⟨q1, C2, K⟩ := K
  refine g_callS (M' := mX7_isPolicy) (As := [.int x1]) (rest := []) (rc' := rc) (rs' := rs) dX7_mean_1 bw_1067 bw_1068 bw_1 bw_1069 ⟨by decide +kernel, by decide +kernel, show (parseMethodDescriptor mX7_isPolicy.1.desc).map (fun d => d.parameters.length) = some 1 by decide +kernel⟩ (by decide) (by decide) (Nat.le_of_ble_eq_true rfl) C2 (Nat.le_of_eq (Nat.add_zero _)) (Nat.le_of_eq (Nat.add_zero _)) (fun _ _ h => h) ?_
  rintro _ h3 ⟨r4, rfl, K1⟩ -
  replace K := K r4 h3 K1
  show Gm l x mX7_mean 8 4 [(0, .ref a0), (1, .int x1), (2, .int x2)] [.int r4] h3 rc rs n0 Q X
  refine g_if_eq (tgt := 14) dX7_mean_4 (by decide) (fun c5 => ?_) (fun c5 => ?_)
  · replace K := K.1 c5
    exact g_throwW (cls := "java/lang/IllegalArgumentException") (text := "no such policy or late") (names := ["java/lang/RuntimeException", "java/lang/Exception"]) (by decide) (by decide) bw_689 bw_13 K.1.1 K.1.2 dX7_mean_14 dX7_mean_17 dX7_mean_18 dX7_mean_21 dX7_mean_24 (by decide) (Nat.le_of_ble_eq_true rfl) K.2.1 K.2.2.1 K.2.2.2
  · replace K := K.2 c5
    refine g_iload_n dX7_mean_7 rfl 2 rfl ?_
    obtain ⟨q7, C8, K⟩ := K
    refine g_callS (M' := mX7_isLate) (As := [.int x2]) (rest := []) (rc' := rc) (rs' := rs) dX7_mean_8 bw_1070 bw_1071 bw_1 bw_1072 ⟨by decide +kernel, by decide +kernel, show (parseMethodDescriptor mX7_isLate.1.desc).map (fun d => d.parameters.length) = some 1 by decide +kernel⟩ (by decide) (by decide) (Nat.le_of_ble_eq_true rfl) C8 (Nat.le_of_eq (Nat.add_zero _)) (Nat.le_of_eq (Nat.add_zero _)) (fun _ _ h => h) ?_
    rintro _ h9 ⟨r10, rfl, K1⟩ -
    replace K := K r10 h9 K1
    show Gm l x mX7_mean 8 11 [(0, .ref a0), (1, .int x1), (2, .int x2)] [.int r10] h9 rc rs n0 Q X
    refine g_if_ne (tgt := 25) dX7_mean_11 (by decide) (fun c11 => ?_) (fun c11 => ?_)
    · replace K := K.1 c11
      refine g_aload_n dX7_mean_25 rfl 0 rfl ?_
      obtain ⟨e12, b13, e14, K⟩ := K
      refine g_get (c := 7) (k := 3) (v := .ref b13) dX7_mean_26 fc_7 (by decide) (by decide) bw_405 (congrArg pr e14) e12 ?_
      obtain ⟨e15, b16, e17, K⟩ := K
      refine g_get (c := 5) (k := 0) (v := .ref b16) dX7_mean_29 fc_5 (by decide) (by decide) bw_315 (congrArg pr e17) e15 ?_
      obtain ⟨e18, K⟩ := K
      refine g_get (c := 1) (k := 2) (v := .int (hI h9 b16 2)) dX7_mean_32 fc_1 (by decide) (by decide) bw_194 rfl e18 ?_
      refine g_istore_n (lv' := [(0, .ref a0), (1, .int x1), (2, .int x2), (3, .int (hI h9 b16 2))]) dX7_mean_35 rfl (by decide) rfl ?_
      refine g_iload_n dX7_mean_36 rfl 3 rfl ?_
      refine g_if_ne (tgt := 42) dX7_mean_37 (by decide) (fun c19 => ?_) (fun c19 => ?_)
      · replace K := K.1 c19
        refine g_aload_n dX7_mean_42 rfl 0 rfl ?_
        refine g_get (c := 7) (k := 3) (v := .ref b13) dX7_mean_43 fc_7 (by decide) (by decide) bw_405 (congrArg pr e14) e12 ?_
        obtain ⟨b20, e21, K⟩ := K
        refine g_get (c := 5) (k := 3) (v := .ref b20) dX7_mean_46 fc_5 (by decide) (by decide) bw_319 (congrArg pr e21) e15 ?_
        refine g_aload_n dX7_mean_49 rfl 0 rfl ?_
        refine g_get (c := 7) (k := 3) (v := .ref b13) dX7_mean_50 fc_7 (by decide) (by decide) bw_405 (congrArg pr e14) e12 ?_
        refine g_iload_n dX7_mean_53 rfl 1 rfl ?_
        refine g_iload_n dX7_mean_54 rfl 2 rfl ?_
        obtain ⟨q22, C23, K⟩ := K
        refine g_callV (M' := mX5_run) (b := b13) (As := [.int x1, .int x2]) (rest := [.ref b20]) (rc' := rc) (rs' := rs) dX7_mean_55 bw_1074 bw_930 bw_931 bw_6 bw_932 ⟨by decide +kernel, by decide +kernel, show (parseMethodDescriptor mX5_run.1.desc).map (fun d => d.parameters.length) = some 2 by decide +kernel⟩ (by decide) (by decide) (Nat.le_of_ble_eq_true rfl) fc_5 (by decide) rfl e15 C23 (Nat.le_of_eq (Nat.add_zero _)) (Nat.le_of_eq (Nat.add_zero _)) (fun _ _ h => h) ?_
        rintro _ h24 ⟨r25, rfl, K1⟩ -
        replace K := K r25 h24 K1
        show Gm l x mX7_mean 8 58 [(0, .ref a0), (1, .int x1), (2, .int x2), (3, .int (hI h9 b16 2))] [.int r25, .ref b20] h24 rc rs n0 Q X
        obtain ⟨e26, e27, K⟩ := K
        refine g_iald dX7_mean_58 e26 e27 ?_
        refine g_istore (lv' := [(0, .ref a0), (1, .int x1), (2, .int x2), (3, .int (hI h9 b16 2)), (4, .int (hI h24 b20 r25.toNatClampNeg))]) dX7_mean_59 (by decide) rfl ?_
        refine g_iload dX7_mean_61 4 rfl ?_
        refine g_i2f dX7_mean_63 ?_
        refine g_iload_n dX7_mean_64 rfl 3 rfl ?_
        refine g_i2f dX7_mean_65 ?_
        obtain ⟨e28, K⟩ := K
        refine g_fdiv dX7_mean_66 e28 ?_
        obtain ⟨q29, C30, K⟩ := K
        refine g_callS (M' := mX7_bitsOf) (As := [.float (FP.fdiv (FP.i2f (hI h24 b20 r25.toNatClampNeg)) (FP.i2f (hI h9 b16 2)))]) (rest := []) (rc' := rc) (rs' := rs) dX7_mean_67 bw_1005 bw_1006 bw_1 bw_1007 ⟨by decide +kernel, by decide +kernel, show (parseMethodDescriptor mX7_bitsOf.1.desc).map (fun d => d.parameters.length) = some 1 by decide +kernel⟩ (by decide) (by decide) (Nat.le_of_ble_eq_true rfl) C30 (Nat.le_of_eq (Nat.add_zero _)) (Nat.le_of_eq (Nat.add_zero _)) (fun _ _ h => h) ?_
        rintro _ h31 ⟨r32, rfl, K1⟩ -
        replace K := K r32 h31 K1
        show Gm l x mX7_mean 8 70 [(0, .ref a0), (1, .int x1), (2, .int x2), (3, .int (hI h9 b16 2)), (4, .int (hI h24 b20 r25.toNatClampNeg))] [.int r32] h31 rc rs n0 Q X
        exact g_iret dX7_mean_70 rfl K
      · replace K := K.2 c19
        refine g_iconst (v := 0) dX7_mean_40 (by decide) ?_
        exact g_iret dX7_mean_41 rfl K
    · replace K := K.2 c11
      exact g_throwW (cls := "java/lang/IllegalArgumentException") (text := "no such policy or late") (names := ["java/lang/RuntimeException", "java/lang/Exception"]) (by decide) (by decide) bw_689 bw_13 K.1.1 K.1.2 dX7_mean_14 dX7_mean_17 dX7_mean_18 dX7_mean_21 dX7_mean_24 (by decide) (Nat.le_of_ble_eq_true rfl) K.2.1 K.2.2.1 K.2.2.2
theorem dX7_anew_0 : decode cX7_anew 0 = .ok (.iload_n 3, 1) := by decide +kernel
theorem dX7_anew_1 : decode cX7_anew 1 = .ok (.ifCond .lt 8, 3) := by decide +kernel
theorem dX7_anew_4 : decode cX7_anew 4 = .ok (.iload_n 3, 1) := by decide +kernel
theorem dX7_anew_5 : decode cX7_anew 5 = .ok (.iconst 2, 1) := by decide +kernel
theorem dX7_anew_6 : decode cX7_anew 6 = .ok (.if_icmp .le 14, 3) := by decide +kernel
theorem dX7_anew_9 : decode cX7_anew 9 = .ok (.new 175, 3) := by decide +kernel
theorem dX7_anew_12 : decode cX7_anew 12 = .ok (.dup, 1) := by decide +kernel
theorem dX7_anew_13 : decode cX7_anew 13 = .ok (.ldc_w 331, 3) := by decide +kernel
theorem dX7_anew_16 : decode cX7_anew 16 = .ok (.invokespecial 179, 3) := by decide +kernel
theorem dX7_anew_19 : decode cX7_anew 19 = .ok (.athrow, 1) := by decide +kernel
theorem dX7_anew_20 : decode cX7_anew 20 = .ok (.iload_n 1, 1) := by decide +kernel
theorem dX7_anew_21 : decode cX7_anew 21 = .ok (.invokestatic 315, 3) := by decide +kernel
theorem dX7_anew_24 : decode cX7_anew 24 = .ok (.ifCond .eq 10, 3) := by decide +kernel
theorem dX7_anew_27 : decode cX7_anew 27 = .ok (.iload_n 2, 1) := by decide +kernel
theorem dX7_anew_28 : decode cX7_anew 28 = .ok (.invokestatic 318, 3) := by decide +kernel
theorem dX7_anew_31 : decode cX7_anew 31 = .ok (.ifCond .ne 14, 3) := by decide +kernel
theorem dX7_anew_34 : decode cX7_anew 34 = .ok (.new 55, 3) := by decide +kernel
theorem dX7_anew_37 : decode cX7_anew 37 = .ok (.dup, 1) := by decide +kernel
theorem dX7_anew_38 : decode cX7_anew 38 = .ok (.ldc_w 321, 3) := by decide +kernel
theorem dX7_anew_41 : decode cX7_anew 41 = .ok (.invokespecial 59, 3) := by decide +kernel
theorem dX7_anew_44 : decode cX7_anew 44 = .ok (.athrow, 1) := by decide +kernel
theorem dX7_anew_45 : decode cX7_anew 45 = .ok (.aload_n 0, 1) := by decide +kernel
theorem dX7_anew_46 : decode cX7_anew 46 = .ok (.getfield 30, 3) := by decide +kernel
theorem dX7_anew_49 : decode cX7_anew 49 = .ok (.iload_n 1, 1) := by decide +kernel
theorem dX7_anew_50 : decode cX7_anew 50 = .ok (.iload_n 2, 1) := by decide +kernel
theorem dX7_anew_51 : decode cX7_anew 51 = .ok (.invokevirtual 328, 3) := by decide +kernel
theorem dX7_anew_54 : decode cX7_anew 54 = .ok (.istore 4, 2) := by decide +kernel
theorem dX7_anew_56 : decode cX7_anew 56 = .ok (.iload_n 3, 1) := by decide +kernel
theorem dX7_anew_57 : decode cX7_anew 57 = .ok (.lookupswitch 49 #[(0, 27), (1, 38)], 27) := by decide +kernel
theorem dX7_anew_84 : decode cX7_anew 84 = .ok (.aload_n 0, 1) := by decide +kernel
theorem dX7_anew_85 : decode cX7_anew 85 = .ok (.getfield 30, 3) := by decide +kernel
theorem dX7_anew_88 : decode cX7_anew 88 = .ok (.getfield 333, 3) := by decide +kernel
theorem dX7_anew_91 : decode cX7_anew 91 = .ok (.iload 4, 2) := by decide +kernel
theorem dX7_anew_93 : decode cX7_anew 93 = .ok (.iaload, 1) := by decide +kernel
theorem dX7_anew_94 : decode cX7_anew 94 = .ok (.ireturn, 1) := by decide +kernel
theorem dX7_anew_95 : decode cX7_anew 95 = .ok (.aload_n 0, 1) := by decide +kernel
theorem dX7_anew_96 : decode cX7_anew 96 = .ok (.getfield 30, 3) := by decide +kernel
theorem dX7_anew_99 : decode cX7_anew 99 = .ok (.getfield 336, 3) := by decide +kernel
theorem dX7_anew_102 : decode cX7_anew 102 = .ok (.iload 4, 2) := by decide +kernel
theorem dX7_anew_104 : decode cX7_anew 104 = .ok (.iaload, 1) := by decide +kernel
theorem dX7_anew_105 : decode cX7_anew 105 = .ok (.ireturn, 1) := by decide +kernel
theorem dX7_anew_106 : decode cX7_anew 106 = .ok (.aload_n 0, 1) := by decide +kernel
theorem dX7_anew_107 : decode cX7_anew 107 = .ok (.getfield 30, 3) := by decide +kernel
theorem dX7_anew_110 : decode cX7_anew 110 = .ok (.getfield 339, 3) := by decide +kernel
theorem dX7_anew_113 : decode cX7_anew 113 = .ok (.iload 4, 2) := by decide +kernel
theorem dX7_anew_115 : decode cX7_anew 115 = .ok (.iaload, 1) := by decide +kernel
theorem dX7_anew_116 : decode cX7_anew 116 = .ok (.ireturn, 1) := by decide +kernel
set_option maxRecDepth 20000 in
set_option maxHeartbeats 4000000 in
theorem vX7_anew_0 {l : Launch} {x : CX} {a0 : Nat} {x1 : Int32} {x2 : Int32} {x3 : Int32} {h : PH} {rc rs n0 : Nat} {Q : Option Value → PH → Prop} {X : String → PH → Prop}
    (K : ((x3 < 0 → ThrowOk x RX7 "java/util/NoSuchElementException" "no such what of anew" ["java/lang/RuntimeException", "java/lang/Exception"] 331 179 ∧ 1 ≤ rc ∧ 6 ≤ rs ∧ X "java/util/NoSuchElementException" h) ∧ (¬ x3 < 0 → ((x3 ≤ 2 → ∃ (q4 : Int32 → PH → Prop), CI l x mX7_isPolicy 0 0 0 [.int x1] h q4 ∧ ∀ (r7 : Int32) (h6 : PH), q4 r7 h6 → ((r7 = 0 → ThrowOk x RX7 "java/lang/IllegalArgumentException" "no such policy or late" ["java/lang/RuntimeException", "java/lang/Exception"] 321 59 ∧ 1 ≤ rc ∧ 6 ≤ rs ∧ X "java/lang/IllegalArgumentException" h6) ∧ (¬ r7 = 0 → ∃ (q10 : Int32 → PH → Prop), CI l x mX7_isLate 0 0 0 [.int x2] h6 q10 ∧ ∀ (r13 : Int32) (h12 : PH), q10 r13 h12 → ((¬ r13 = 0 → ((hK h12 a0).1 = 7) ∧ ∃ b16, (hR h12 a0 3 = some b16) ∧ ((hK h12 b16).1 = 5) ∧ ∃ (q18 : Int32 → PH → Prop), CI l x mX5_run 5 0 0 [.ref b16, .int x1, .int x2] h12 q18 ∧ ∀ (r22 : Int32) (h21 : PH), q18 r22 h21 → ((x3.toInt = 0 → ((hK h21 a0).1 = 7) ∧ ∃ b24, (hR h21 a0 3 = some b24) ∧ ((hK h21 b24).1 = 5) ∧ ∃ b27, (hR h21 b24 4 = some b27) ∧ ((hK h21 b27).1 = 100) ∧ (vp_in r22 (hK h21 b27).2) ∧ Q (some (.int (hI h21 b27 r22.toNatClampNeg))) h21) ∧ (x3.toInt = 1 → ((hK h21 a0).1 = 7) ∧ ∃ b33, (hR h21 a0 3 = some b33) ∧ ((hK h21 b33).1 = 5) ∧ ∃ b36, (hR h21 b33 5 = some b36) ∧ ((hK h21 b36).1 = 100) ∧ (vp_in r22 (hK h21 b36).2) ∧ Q (some (.int (hI h21 b36 r22.toNatClampNeg))) h21) ∧ ((¬ x3.toInt = 0 ∧ ¬ x3.toInt = 1) → ((hK h21 a0).1 = 7) ∧ ∃ b42, (hR h21 a0 3 = some b42) ∧ ((hK h21 b42).1 = 5) ∧ ∃ b45, (hR h21 b42 6 = some b45) ∧ ((hK h21 b45).1 = 100) ∧ (vp_in r22 (hK h21 b45).2) ∧ Q (some (.int (hI h21 b45 r22.toNatClampNeg))) h21))) ∧ (r13 = 0 → ThrowOk x RX7 "java/lang/IllegalArgumentException" "no such policy or late" ["java/lang/RuntimeException", "java/lang/Exception"] 321 59 ∧ 1 ≤ rc ∧ 6 ≤ rs ∧ X "java/lang/IllegalArgumentException" h12))))) ∧ (¬ x3 ≤ 2 → ThrowOk x RX7 "java/util/NoSuchElementException" "no such what of anew" ["java/lang/RuntimeException", "java/lang/Exception"] 331 179 ∧ 1 ≤ rc ∧ 6 ≤ rs ∧ X "java/util/NoSuchElementException" h))))) :
    Gm l x mX7_anew 8 0 [(0, .ref a0), (1, .int x1), (2, .int x2), (3, .int x3)] [] h rc rs n0 Q X := by
  refine g_iload_n dX7_anew_0 rfl 3 rfl ?_
  refine g_if_lt (tgt := 9) dX7_anew_1 (by decide) (fun c1 => ?_) (fun c1 => ?_)
  · replace K := K.1 c1
    exact g_throwW (cls := "java/util/NoSuchElementException") (text := "no such what of anew") (names := ["java/lang/RuntimeException", "java/lang/Exception"]) (by decide) (by decide) bw_977 bw_22 K.1.1 K.1.2 dX7_anew_9 dX7_anew_12 dX7_anew_13 dX7_anew_16 dX7_anew_19 (by decide) (Nat.le_of_ble_eq_true rfl) K.2.1 K.2.2.1 K.2.2.2
  · replace K := K.2 c1
    refine g_iload_n dX7_anew_4 rfl 3 rfl ?_
    refine g_iconst (v := 2) dX7_anew_5 (by decide) ?_
    refine g_icmp_le (tgt := 20) dX7_anew_6 (by decide) (fun c3 => ?_) (fun c3 => ?_)
    · replace K := K.1 c3
      refine g_iload_n dX7_anew_20 rfl 1 rfl ?_
      obtain ⟨q4, C5, K⟩ := K
      refine g_callS (M' := mX7_isPolicy) (As := [.int x1]) (rest := []) (rc' := rc) (rs' := rs) dX7_anew_21 bw_1067 bw_1068 bw_1 bw_1069 ⟨by decide +kernel, by decide +kernel, show (parseMethodDescriptor mX7_isPolicy.1.desc).map (fun d => d.parameters.length) = some 1 by decide +kernel⟩ (by decide) (by decide) (Nat.le_of_ble_eq_true rfl) C5 (Nat.le_of_eq (Nat.add_zero _)) (Nat.le_of_eq (Nat.add_zero _)) (fun _ _ h => h) ?_
      rintro _ h6 ⟨r7, rfl, K1⟩ -
      replace K := K r7 h6 K1
      show Gm l x mX7_anew 8 24 [(0, .ref a0), (1, .int x1), (2, .int x2), (3, .int x3)] [.int r7] h6 rc rs n0 Q X
      refine g_if_eq (tgt := 34) dX7_anew_24 (by decide) (fun c8 => ?_) (fun c8 => ?_)
      · replace K := K.1 c8
        exact g_throwW (cls := "java/lang/IllegalArgumentException") (text := "no such policy or late") (names := ["java/lang/RuntimeException", "java/lang/Exception"]) (by decide) (by decide) bw_689 bw_13 K.1.1 K.1.2 dX7_anew_34 dX7_anew_37 dX7_anew_38 dX7_anew_41 dX7_anew_44 (by decide) (Nat.le_of_ble_eq_true rfl) K.2.1 K.2.2.1 K.2.2.2
      · replace K := K.2 c8
        refine g_iload_n dX7_anew_27 rfl 2 rfl ?_
        obtain ⟨q10, C11, K⟩ := K
        refine g_callS (M' := mX7_isLate) (As := [.int x2]) (rest := []) (rc' := rc) (rs' := rs) dX7_anew_28 bw_1070 bw_1071 bw_1 bw_1072 ⟨by decide +kernel, by decide +kernel, show (parseMethodDescriptor mX7_isLate.1.desc).map (fun d => d.parameters.length) = some 1 by decide +kernel⟩ (by decide) (by decide) (Nat.le_of_ble_eq_true rfl) C11 (Nat.le_of_eq (Nat.add_zero _)) (Nat.le_of_eq (Nat.add_zero _)) (fun _ _ h => h) ?_
        rintro _ h12 ⟨r13, rfl, K1⟩ -
        replace K := K r13 h12 K1
        show Gm l x mX7_anew 8 31 [(0, .ref a0), (1, .int x1), (2, .int x2), (3, .int x3)] [.int r13] h12 rc rs n0 Q X
        refine g_if_ne (tgt := 45) dX7_anew_31 (by decide) (fun c14 => ?_) (fun c14 => ?_)
        · replace K := K.1 c14
          refine g_aload_n dX7_anew_45 rfl 0 rfl ?_
          obtain ⟨e15, b16, e17, K⟩ := K
          refine g_get (c := 7) (k := 3) (v := .ref b16) dX7_anew_46 fc_7 (by decide) (by decide) bw_405 (congrArg pr e17) e15 ?_
          refine g_iload_n dX7_anew_49 rfl 1 rfl ?_
          refine g_iload_n dX7_anew_50 rfl 2 rfl ?_
          obtain ⟨e20, K⟩ := K
          obtain ⟨q18, C19, K⟩ := K
          refine g_callV (M' := mX5_run) (b := b16) (As := [.int x1, .int x2]) (rest := []) (rc' := rc) (rs' := rs) dX7_anew_51 bw_1074 bw_930 bw_931 bw_6 bw_932 ⟨by decide +kernel, by decide +kernel, show (parseMethodDescriptor mX5_run.1.desc).map (fun d => d.parameters.length) = some 2 by decide +kernel⟩ (by decide) (by decide) (Nat.le_of_ble_eq_true rfl) fc_5 (by decide) rfl e20 C19 (Nat.le_of_eq (Nat.add_zero _)) (Nat.le_of_eq (Nat.add_zero _)) (fun _ _ h => h) ?_
          rintro _ h21 ⟨r22, rfl, K1⟩ -
          replace K := K r22 h21 K1
          show Gm l x mX7_anew 8 54 [(0, .ref a0), (1, .int x1), (2, .int x2), (3, .int x3)] [.int r22] h21 rc rs n0 Q X
          refine g_istore (lv' := [(0, .ref a0), (1, .int x1), (2, .int x2), (3, .int x3), (4, .int r22)]) dX7_anew_54 (by decide) rfl ?_
          refine g_iload_n dX7_anew_56 rfl 3 rfl ?_
          by_cases e31 : x3.toInt = 0
          · replace K := K.1 e31
            refine g_lookup (off := 27) (tgt := 84) dX7_anew_57 (by decide) (by rw [e31]; decide) (by decide) ?_
            refine g_aload_n dX7_anew_84 rfl 0 rfl ?_
            obtain ⟨e23, b24, e25, K⟩ := K
            refine g_get (c := 7) (k := 3) (v := .ref b24) dX7_anew_85 fc_7 (by decide) (by decide) bw_405 (congrArg pr e25) e23 ?_
            obtain ⟨e26, b27, e28, K⟩ := K
            refine g_get (c := 5) (k := 4) (v := .ref b27) dX7_anew_88 fc_5 (by decide) (by decide) bw_321 (congrArg pr e28) e26 ?_
            refine g_iload dX7_anew_91 4 rfl ?_
            obtain ⟨e29, e30, K⟩ := K
            refine g_iald dX7_anew_93 e29 e30 ?_
            exact g_iret dX7_anew_94 rfl K
          · skip
            by_cases e40 : x3.toInt = 1
            · replace K := K.2.1 e40
              refine g_lookup (off := 38) (tgt := 95) dX7_anew_57 (by decide) (by rw [e40]; decide) (by decide) ?_
              refine g_aload_n dX7_anew_95 rfl 0 rfl ?_
              obtain ⟨e32, b33, e34, K⟩ := K
              refine g_get (c := 7) (k := 3) (v := .ref b33) dX7_anew_96 fc_7 (by decide) (by decide) bw_405 (congrArg pr e34) e32 ?_
              obtain ⟨e35, b36, e37, K⟩ := K
              refine g_get (c := 5) (k := 5) (v := .ref b36) dX7_anew_99 fc_5 (by decide) (by decide) bw_323 (congrArg pr e37) e35 ?_
              refine g_iload dX7_anew_102 4 rfl ?_
              obtain ⟨e38, e39, K⟩ := K
              refine g_iald dX7_anew_104 e38 e39 ?_
              exact g_iret dX7_anew_105 rfl K
            · skip
              replace K := K.2.2 ⟨e31, e40⟩
              refine g_lookup (off := 49) (tgt := 106) dX7_anew_57 (by decide) (by simp [Op.lookupswitch.offset, show ¬ (0 : Int) = x3.toInt from fun q => e31 q.symm, show ¬ (1 : Int) = x3.toInt from fun q => e40 q.symm]) (by decide) ?_
              refine g_aload_n dX7_anew_106 rfl 0 rfl ?_
              obtain ⟨e41, b42, e43, K⟩ := K
              refine g_get (c := 7) (k := 3) (v := .ref b42) dX7_anew_107 fc_7 (by decide) (by decide) bw_405 (congrArg pr e43) e41 ?_
              obtain ⟨e44, b45, e46, K⟩ := K
              refine g_get (c := 5) (k := 6) (v := .ref b45) dX7_anew_110 fc_5 (by decide) (by decide) bw_325 (congrArg pr e46) e44 ?_
              refine g_iload dX7_anew_113 4 rfl ?_
              obtain ⟨e47, e48, K⟩ := K
              refine g_iald dX7_anew_115 e47 e48 ?_
              exact g_iret dX7_anew_116 rfl K
        · replace K := K.2 c14
          exact g_throwW (cls := "java/lang/IllegalArgumentException") (text := "no such policy or late") (names := ["java/lang/RuntimeException", "java/lang/Exception"]) (by decide) (by decide) bw_689 bw_13 K.1.1 K.1.2 dX7_anew_34 dX7_anew_37 dX7_anew_38 dX7_anew_41 dX7_anew_44 (by decide) (Nat.le_of_ble_eq_true rfl) K.2.1 K.2.2.1 K.2.2.2
    · replace K := K.2 c3
      exact g_throwW (cls := "java/util/NoSuchElementException") (text := "no such what of anew") (names := ["java/lang/RuntimeException", "java/lang/Exception"]) (by decide) (by decide) bw_977 bw_22 K.1.1 K.1.2 dX7_anew_9 dX7_anew_12 dX7_anew_13 dX7_anew_16 dX7_anew_19 (by decide) (Nat.le_of_ble_eq_true rfl) K.2.1 K.2.2.1 K.2.2.2
theorem dX7_homes_0 : decode cX7_homes 0 = .ok (.aload_n 0, 1) := by decide +kernel
theorem dX7_homes_1 : decode cX7_homes 1 = .ok (.getfield 37, 3) := by decide +kernel
theorem dX7_homes_4 : decode cX7_homes 4 = .ok (.getfield 81, 3) := by decide +kernel
theorem dX7_homes_7 : decode cX7_homes 7 = .ok (.astore_n 3, 1) := by decide +kernel
theorem dX7_homes_8 : decode cX7_homes 8 = .ok (.iload_n 1, 1) := by decide +kernel
theorem dX7_homes_9 : decode cX7_homes 9 = .ok (.ifCond .lt 20, 3) := by decide +kernel
theorem dX7_homes_12 : decode cX7_homes 12 = .ok (.iload_n 1, 1) := by decide +kernel
theorem dX7_homes_13 : decode cX7_homes 13 = .ok (.aload_n 3, 1) := by decide +kernel
theorem dX7_homes_14 : decode cX7_homes 14 = .ok (.getfield 87, 3) := by decide +kernel
theorem dX7_homes_17 : decode cX7_homes 17 = .ok (.if_icmp .ge 12, 3) := by decide +kernel
theorem dX7_homes_20 : decode cX7_homes 20 = .ok (.iload_n 2, 1) := by decide +kernel
theorem dX7_homes_21 : decode cX7_homes 21 = .ok (.ifCond .lt 8, 3) := by decide +kernel
theorem dX7_homes_24 : decode cX7_homes 24 = .ok (.iload_n 2, 1) := by decide +kernel
theorem dX7_homes_25 : decode cX7_homes 25 = .ok (.iconst 1, 1) := by decide +kernel
theorem dX7_homes_26 : decode cX7_homes 26 = .ok (.if_icmp .le 14, 3) := by decide +kernel
theorem dX7_homes_29 : decode cX7_homes 29 = .ok (.new 175, 3) := by decide +kernel
theorem dX7_homes_32 : decode cX7_homes 32 = .ok (.dup, 1) := by decide +kernel
theorem dX7_homes_33 : decode cX7_homes 33 = .ok (.ldc_w 342, 3) := by decide +kernel
theorem dX7_homes_36 : decode cX7_homes 36 = .ok (.invokespecial 179, 3) := by decide +kernel
theorem dX7_homes_39 : decode cX7_homes 39 = .ok (.athrow, 1) := by decide +kernel
theorem dX7_homes_40 : decode cX7_homes 40 = .ok (.iconst (-1), 1) := by decide +kernel
theorem dX7_homes_41 : decode cX7_homes 41 = .ok (.istore 4, 2) := by decide +kernel
theorem dX7_homes_43 : decode cX7_homes 43 = .ok (.iconst 0, 1) := by decide +kernel
theorem dX7_homes_44 : decode cX7_homes 44 = .ok (.istore 5, 2) := by decide +kernel
theorem dX7_homes_46 : decode cX7_homes 46 = .ok (.iconst 0, 1) := by decide +kernel
theorem dX7_homes_47 : decode cX7_homes 47 = .ok (.istore 6, 2) := by decide +kernel
theorem dX7_homes_49 : decode cX7_homes 49 = .ok (.iload 6, 2) := by decide +kernel
theorem dX7_homes_51 : decode cX7_homes 51 = .ok (.aload_n 3, 1) := by decide +kernel
theorem dX7_homes_52 : decode cX7_homes 52 = .ok (.getfield 84, 3) := by decide +kernel
theorem dX7_homes_55 : decode cX7_homes 55 = .ok (.if_icmp .ge 50, 3) := by decide +kernel
theorem dX7_homes_58 : decode cX7_homes 58 = .ok (.aload_n 0, 1) := by decide +kernel
theorem dX7_homes_59 : decode cX7_homes 59 = .ok (.getfield 30, 3) := by decide +kernel
theorem dX7_homes_62 : decode cX7_homes 62 = .ok (.iload_n 1, 1) := by decide +kernel
theorem dX7_homes_63 : decode cX7_homes 63 = .ok (.iload 6, 2) := by decide +kernel
theorem dX7_homes_65 : decode cX7_homes 65 = .ok (.aload_n 3, 1) := by decide +kernel
theorem dX7_homes_66 : decode cX7_homes 66 = .ok (.getfield 99, 3) := by decide +kernel
theorem dX7_homes_69 : decode cX7_homes 69 = .ok (.aload_n 3, 1) := by decide +kernel
theorem dX7_homes_70 : decode cX7_homes 70 = .ok (.getfield 96, 3) := by decide +kernel
theorem dX7_homes_73 : decode cX7_homes 73 = .ok (.invokevirtual 344, 3) := by decide +kernel
theorem dX7_homes_76 : decode cX7_homes 76 = .ok (.istore 7, 2) := by decide +kernel
theorem dX7_homes_78 : decode cX7_homes 78 = .ok (.iload 4, 2) := by decide +kernel
theorem dX7_homes_80 : decode cX7_homes 80 = .ok (.iconst (-1), 1) := by decide +kernel
theorem dX7_homes_81 : decode cX7_homes 81 = .ok (.if_icmp .eq 10, 3) := by decide +kernel
theorem dX7_homes_84 : decode cX7_homes 84 = .ok (.iload 7, 2) := by decide +kernel
theorem dX7_homes_86 : decode cX7_homes 86 = .ok (.iload 5, 2) := by decide +kernel
theorem dX7_homes_88 : decode cX7_homes 88 = .ok (.if_icmp .ge 11, 3) := by decide +kernel
theorem dX7_homes_91 : decode cX7_homes 91 = .ok (.iload 6, 2) := by decide +kernel
theorem dX7_homes_93 : decode cX7_homes 93 = .ok (.istore 4, 2) := by decide +kernel
theorem dX7_homes_95 : decode cX7_homes 95 = .ok (.iload 7, 2) := by decide +kernel
theorem dX7_homes_97 : decode cX7_homes 97 = .ok (.istore 5, 2) := by decide +kernel
theorem dX7_homes_99 : decode cX7_homes 99 = .ok (.iinc 6 1, 3) := by decide +kernel
theorem dX7_homes_102 : decode cX7_homes 102 = .ok (.goto (-53), 3) := by decide +kernel
theorem dX7_homes_105 : decode cX7_homes 105 = .ok (.iload_n 2, 1) := by decide +kernel
theorem dX7_homes_106 : decode cX7_homes 106 = .ok (.ifCond .ne 8, 3) := by decide +kernel
theorem dX7_homes_109 : decode cX7_homes 109 = .ok (.iload 4, 2) := by decide +kernel
theorem dX7_homes_111 : decode cX7_homes 111 = .ok (.goto 5, 3) := by decide +kernel
theorem dX7_homes_114 : decode cX7_homes 114 = .ok (.iload 5, 2) := by decide +kernel
theorem dX7_homes_116 : decode cX7_homes 116 = .ok (.ireturn, 1) := by decide +kernel
set_option maxRecDepth 20000 in
set_option maxHeartbeats 4000000 in
theorem vX7_homes_0 {l : Launch} {x : CX} {a0 : Nat} {x1 : Int32} {x2 : Int32} {h : PH} {rc rs n0 : Nat} {Q : Option Value → PH → Prop} {X : String → PH → Prop}
    (K : ((hK h a0).1 = 7) ∧ ∃ b2, (hR h a0 4 = some b2) ∧ ((hK h b2).1 = 3) ∧ ∃ b5, (hR h b2 0 = some b5) ∧ ((x1 < 0 → ThrowOk x RX7 "java/util/NoSuchElementException" "no such car, or what of homes" ["java/lang/RuntimeException", "java/lang/Exception"] 342 179 ∧ 1 ≤ rc ∧ 6 ≤ rs ∧ X "java/util/NoSuchElementException" h) ∧ (¬ x1 < 0 → ((hK h b5).1 = 1) ∧ (((hI h b5 1) ≤ x1 → ThrowOk x RX7 "java/util/NoSuchElementException" "no such car, or what of homes" ["java/lang/RuntimeException", "java/lang/Exception"] 342 179 ∧ 1 ≤ rc ∧ 6 ≤ rs ∧ X "java/util/NoSuchElementException" h) ∧ (¬ (hI h b5 1) ≤ x1 → ((x2 < 0 → ThrowOk x RX7 "java/util/NoSuchElementException" "no such car, or what of homes" ["java/lang/RuntimeException", "java/lang/Exception"] 342 179 ∧ 1 ≤ rc ∧ 6 ≤ rs ∧ X "java/util/NoSuchElementException" h) ∧ (¬ x2 < 0 → ((x2 ≤ 1 → Gm l x mX7_homes 8 49 [(0, .ref a0), (1, .int x1), (2, .int x2), (3, .ref b5), (4, .int (-1)), (5, .int 0), (6, .int 0)] [] h rc rs n0 Q X) ∧ (¬ x2 ≤ 1 → ThrowOk x RX7 "java/util/NoSuchElementException" "no such car, or what of homes" ["java/lang/RuntimeException", "java/lang/Exception"] 342 179 ∧ 1 ≤ rc ∧ 6 ≤ rs ∧ X "java/util/NoSuchElementException" h))))))))) :
    Gm l x mX7_homes 8 0 [(0, .ref a0), (1, .int x1), (2, .int x2)] [] h rc rs n0 Q X := by
  refine g_aload_n dX7_homes_0 rfl 0 rfl ?_
  obtain ⟨e1, b2, e3, K⟩ := K
  refine g_get (c := 7) (k := 4) (v := .ref b2) dX7_homes_1 fc_7 (by decide) (by decide) bw_406 (congrArg pr e3) e1 ?_
  obtain ⟨e4, b5, e6, K⟩ := K
  refine g_get (c := 3) (k := 0) (v := .ref b5) dX7_homes_4 fc_3 (by decide) (by decide) bw_378 (congrArg pr e6) e4 ?_
  refine g_astore_n (lv' := [(0, .ref a0), (1, .int x1), (2, .int x2), (3, .ref b5)]) dX7_homes_7 rfl (by decide) rfl ?_
  refine g_iload_n dX7_homes_8 rfl 1 rfl ?_
  refine g_if_lt (tgt := 29) dX7_homes_9 (by decide) (fun c7 => ?_) (fun c7 => ?_)
  · replace K := K.1 c7
    exact g_throwW (cls := "java/util/NoSuchElementException") (text := "no such car, or what of homes") (names := ["java/lang/RuntimeException", "java/lang/Exception"]) (by decide) (by decide) bw_977 bw_22 K.1.1 K.1.2 dX7_homes_29 dX7_homes_32 dX7_homes_33 dX7_homes_36 dX7_homes_39 (by decide) (Nat.le_of_ble_eq_true rfl) K.2.1 K.2.2.1 K.2.2.2
  · replace K := K.2 c7
    refine g_iload_n dX7_homes_12 rfl 1 rfl ?_
    refine g_aload_n dX7_homes_13 rfl 3 rfl ?_
    obtain ⟨e9, K⟩ := K
    refine g_get (c := 1) (k := 1) (v := .int (hI h b5 1)) dX7_homes_14 fc_1 (by decide) (by decide) bw_189 rfl e9 ?_
    refine g_icmp_ge (tgt := 29) dX7_homes_17 (by decide) (fun c10 => ?_) (fun c10 => ?_)
    · replace K := K.1 c10
      exact g_throwW (cls := "java/util/NoSuchElementException") (text := "no such car, or what of homes") (names := ["java/lang/RuntimeException", "java/lang/Exception"]) (by decide) (by decide) bw_977 bw_22 K.1.1 K.1.2 dX7_homes_29 dX7_homes_32 dX7_homes_33 dX7_homes_36 dX7_homes_39 (by decide) (Nat.le_of_ble_eq_true rfl) K.2.1 K.2.2.1 K.2.2.2
    · replace K := K.2 c10
      refine g_iload_n dX7_homes_20 rfl 2 rfl ?_
      refine g_if_lt (tgt := 29) dX7_homes_21 (by decide) (fun c12 => ?_) (fun c12 => ?_)
      · replace K := K.1 c12
        exact g_throwW (cls := "java/util/NoSuchElementException") (text := "no such car, or what of homes") (names := ["java/lang/RuntimeException", "java/lang/Exception"]) (by decide) (by decide) bw_977 bw_22 K.1.1 K.1.2 dX7_homes_29 dX7_homes_32 dX7_homes_33 dX7_homes_36 dX7_homes_39 (by decide) (Nat.le_of_ble_eq_true rfl) K.2.1 K.2.2.1 K.2.2.2
      · replace K := K.2 c12
        refine g_iload_n dX7_homes_24 rfl 2 rfl ?_
        refine g_iconst (v := 1) dX7_homes_25 (by decide) ?_
        refine g_icmp_le (tgt := 40) dX7_homes_26 (by decide) (fun c14 => ?_) (fun c14 => ?_)
        · replace K := K.1 c14
          refine g_iconst (v := (-1)) dX7_homes_40 (by decide) ?_
          refine g_istore (lv' := [(0, .ref a0), (1, .int x1), (2, .int x2), (3, .ref b5), (4, .int (-1))]) dX7_homes_41 (by decide) rfl ?_
          refine g_iconst (v := 0) dX7_homes_43 (by decide) ?_
          refine g_istore (lv' := [(0, .ref a0), (1, .int x1), (2, .int x2), (3, .ref b5), (4, .int (-1)), (5, .int 0)]) dX7_homes_44 (by decide) rfl ?_
          refine g_iconst (v := 0) dX7_homes_46 (by decide) ?_
          refine g_istore (lv' := [(0, .ref a0), (1, .int x1), (2, .int x2), (3, .ref b5), (4, .int (-1)), (5, .int 0), (6, .int 0)]) dX7_homes_47 (by decide) rfl ?_
          exact K
        · replace K := K.2 c14
          exact g_throwW (cls := "java/util/NoSuchElementException") (text := "no such car, or what of homes") (names := ["java/lang/RuntimeException", "java/lang/Exception"]) (by decide) (by decide) bw_977 bw_22 K.1.1 K.1.2 dX7_homes_29 dX7_homes_32 dX7_homes_33 dX7_homes_36 dX7_homes_39 (by decide) (Nat.le_of_ble_eq_true rfl) K.2.1 K.2.2.1 K.2.2.2
set_option maxRecDepth 20000 in
set_option maxHeartbeats 4000000 in
theorem vX7_homes_49 {l : Launch} {x : CX} {a0 : Nat} {x1 : Int32} {x2 : Int32} {a3 : Nat} {x4 : Int32} {x5 : Int32} {x6 : Int32} {h : PH} {rc rs n0 : Nat} {Q : Option Value → PH → Prop} {X : String → PH → Prop}
    (K : ((hK h a3).1 = 1) ∧ (((hI h a3 0) ≤ x6 → Q (some (.int (if x2 = 0 then x4 else x5 : Int32))) h) ∧ (¬ (hI h a3 0) ≤ x6 → ((hK h a0).1 = 7) ∧ ∃ b5, (hR h a0 3 = some b5) ∧ ((hK h b5).1 = 5) ∧ ∃ (q7 : Int32 → PH → Prop), CI l x mX5_waitedByHome 5 0 0 [.ref b5, .int x1, .int x6, .int (hI h a3 5), .int (hI h a3 4)] h q7 ∧ ∀ (r11 : Int32) (h10 : PH), q7 r11 h10 → Gm l x mX7_homes 8 49 [(0, .ref a0), (1, .int x1), (2, .int x2), (3, .ref a3), (4, .int (if x4 = (-1) then x6 else (if x5 ≤ r11 then x4 else x6 : Int32) : Int32)), (5, .int (if x4 = (-1) then r11 else (if x5 ≤ r11 then x5 else r11 : Int32) : Int32)), (6, .int (x6 + 1))] [] h10 rc rs n0 Q X))) :
    Gm l x mX7_homes 8 49 [(0, .ref a0), (1, .int x1), (2, .int x2), (3, .ref a3), (4, .int x4), (5, .int x5), (6, .int x6)] [] h rc rs n0 Q X := by
  refine g_iload dX7_homes_49 6 rfl ?_
  refine g_aload_n dX7_homes_51 rfl 3 rfl ?_
  obtain ⟨e1, K⟩ := K
  refine g_get (c := 1) (k := 0) (v := .int (hI h a3 0)) dX7_homes_52 fc_1 (by decide) (by decide) bw_186 rfl e1 ?_
  refine g_icmp_ge (tgt := 105) dX7_homes_55 (by decide) (fun c2 => ?_) (fun c2 => ?_)
  · replace K := K.1 c2
    refine g_iload_n dX7_homes_105 rfl 2 rfl ?_
    have KJ : Gm l x mX7_homes 8 116 [(0, .ref a0), (1, .int x1), (2, .int x2), (3, .ref a3), (4, .int x4), (5, .int x5), (6, .int x6)] [.int (if x2 = 0 then x4 else x5 : Int32)] h rc rs n0 Q X := by
      exact g_iret dX7_homes_116 rfl K
    refine g_if_ne (tgt := 114) dX7_homes_106 (by decide) (fun c3 => ?_) (fun c3 => ?_)
    · refine g_iload dX7_homes_114 5 rfl ?_
      first | (simp only [if_neg c3] at KJ; exact KJ) | (simp only [if_neg c3, ite_true, ite_false, eq_self] at KJ; exact KJ) | (simp only [if_neg c3] at KJ ⊢; exact KJ) | exact KJ
    · refine g_iload dX7_homes_109 4 rfl ?_
      refine g_goto (tgt := 116) dX7_homes_111 (by decide) ?_
      first | (simp only [if_pos c3] at KJ; exact KJ) | (simp only [if_pos c3, ite_true, ite_false, eq_self] at KJ; exact KJ) | (simp only [if_pos c3] at KJ ⊢; exact KJ) | exact KJ
  · replace K := K.2 c2
    refine g_aload_n dX7_homes_58 rfl 0 rfl ?_
    obtain ⟨e4, b5, e6, K⟩ := K
    refine g_get (c := 7) (k := 3) (v := .ref b5) dX7_homes_59 fc_7 (by decide) (by decide) bw_405 (congrArg pr e6) e4 ?_
    refine g_iload_n dX7_homes_62 rfl 1 rfl ?_
    refine g_iload dX7_homes_63 6 rfl ?_
    refine g_aload_n dX7_homes_65 rfl 3 rfl ?_
    refine g_get (c := 1) (k := 5) (v := .int (hI h a3 5)) dX7_homes_66 fc_1 (by decide) (by decide) bw_207 rfl e1 ?_
    refine g_aload_n dX7_homes_69 rfl 3 rfl ?_
    refine g_get (c := 1) (k := 4) (v := .int (hI h a3 4)) dX7_homes_70 fc_1 (by decide) (by decide) bw_203 rfl e1 ?_
    obtain ⟨e9, K⟩ := K
    obtain ⟨q7, C8, K⟩ := K
    refine g_callV (M' := mX5_waitedByHome) (b := b5) (As := [.int x1, .int x6, .int (hI h a3 5), .int (hI h a3 4)]) (rest := []) (rc' := rc) (rs' := rs) dX7_homes_73 bw_1091 bw_1092 bw_1093 bw_6 bw_1094 ⟨by decide +kernel, by decide +kernel, show (parseMethodDescriptor mX5_waitedByHome.1.desc).map (fun d => d.parameters.length) = some 4 by decide +kernel⟩ (by decide) (by decide) (Nat.le_of_ble_eq_true rfl) fc_5 (by decide) rfl e9 C8 (Nat.le_of_eq (Nat.add_zero _)) (Nat.le_of_eq (Nat.add_zero _)) (fun _ _ h => h) ?_
    rintro _ h10 ⟨r11, rfl, K1⟩ -
    replace K := K r11 h10 K1
    show Gm l x mX7_homes 8 76 [(0, .ref a0), (1, .int x1), (2, .int x2), (3, .ref a3), (4, .int x4), (5, .int x5), (6, .int x6)] [.int r11] h10 rc rs n0 Q X
    refine g_istore (lv' := [(0, .ref a0), (1, .int x1), (2, .int x2), (3, .ref a3), (4, .int x4), (5, .int x5), (6, .int x6), (7, .int r11)]) dX7_homes_76 (by decide) rfl ?_
    refine g_iload dX7_homes_78 4 rfl ?_
    refine g_iconst (v := (-1)) dX7_homes_80 (by decide) ?_
    have KJ : Gm l x mX7_homes 8 99 [(0, .ref a0), (1, .int x1), (2, .int x2), (3, .ref a3), (4, .int (if x4 = (-1) then x6 else (if x5 ≤ r11 then x4 else x6 : Int32) : Int32)), (5, .int (if x4 = (-1) then r11 else (if x5 ≤ r11 then x5 else r11 : Int32) : Int32)), (6, .int x6), (7, .int r11)] [] h10 rc rs n0 Q X := by
      refine g_iinc (v := (x6 + 1)) (lv' := [(0, .ref a0), (1, .int x1), (2, .int x2), (3, .ref a3), (4, .int (if x4 = (-1) then x6 else (if x5 ≤ r11 then x4 else x6 : Int32) : Int32)), (5, .int (if x4 = (-1) then r11 else (if x5 ≤ r11 then x5 else r11 : Int32) : Int32)), (6, .int (x6 + 1)), (7, .int r11)]) dX7_homes_99 6 rfl (by rfl) (by decide) rfl ?_
      refine g_goto (tgt := 49) dX7_homes_102 (by decide) ?_
      exact Gm.sub [0, 1, 2, 3, 4, 5, 6] rfl K
    refine g_icmp_eq (tgt := 91) dX7_homes_81 (by decide) (fun c12 => ?_) (fun c12 => ?_)
    · refine g_iload dX7_homes_91 6 rfl ?_
      refine g_istore (lv' := [(0, .ref a0), (1, .int x1), (2, .int x2), (3, .ref a3), (4, .int x6), (5, .int x5), (6, .int x6), (7, .int r11)]) dX7_homes_93 (by decide) rfl ?_
      refine g_iload dX7_homes_95 7 rfl ?_
      refine g_istore (lv' := [(0, .ref a0), (1, .int x1), (2, .int x2), (3, .ref a3), (4, .int x6), (5, .int r11), (6, .int x6), (7, .int r11)]) dX7_homes_97 (by decide) rfl ?_
      first | (simp only [if_pos c12] at KJ; exact KJ) | (simp only [if_pos c12, ite_true, ite_false, eq_self] at KJ; exact KJ) | (simp only [if_pos c12] at KJ ⊢; exact KJ) | exact KJ
    · refine g_iload dX7_homes_84 7 rfl ?_
      refine g_iload dX7_homes_86 5 rfl ?_
      refine g_icmp_ge (tgt := 99) dX7_homes_88 (by decide) (fun c13 => ?_) (fun c13 => ?_)
      · first | (simp only [if_neg c12, if_pos c13] at KJ; exact KJ) | (simp only [if_neg c12, if_pos c13, ite_true, ite_false, eq_self] at KJ; exact KJ) | (simp only [if_neg c12, if_pos c13] at KJ ⊢; exact KJ) | exact KJ
      · refine g_iload dX7_homes_91 6 rfl ?_
        refine g_istore (lv' := [(0, .ref a0), (1, .int x1), (2, .int x2), (3, .ref a3), (4, .int x6), (5, .int x5), (6, .int x6), (7, .int r11)]) dX7_homes_93 (by decide) rfl ?_
        refine g_iload dX7_homes_95 7 rfl ?_
        refine g_istore (lv' := [(0, .ref a0), (1, .int x1), (2, .int x2), (3, .ref a3), (4, .int x6), (5, .int r11), (6, .int x6), (7, .int r11)]) dX7_homes_97 (by decide) rfl ?_
        first | (simp only [if_neg c12, if_neg c13] at KJ; exact KJ) | (simp only [if_neg c12, if_neg c13, ite_true, ite_false, eq_self] at KJ; exact KJ) | (simp only [if_neg c12, if_neg c13] at KJ ⊢; exact KJ) | exact KJ
theorem dX7_later_0 : decode cX7_later 0 = .ok (.aload_n 0, 1) := by decide +kernel
theorem dX7_later_1 : decode cX7_later 1 = .ok (.iload_n 1, 1) := by decide +kernel
theorem dX7_later_2 : decode cX7_later 2 = .ok (.invokevirtual 348, 3) := by decide +kernel
theorem dX7_later_5 : decode cX7_later 5 = .ok (.ifCond .ne 14, 3) := by decide +kernel
theorem dX7_later_8 : decode cX7_later 8 = .ok (.new 175, 3) := by decide +kernel
theorem dX7_later_11 : decode cX7_later 11 = .ok (.dup, 1) := by decide +kernel
theorem dX7_later_12 : decode cX7_later 12 = .ok (.ldc_w 351, 3) := by decide +kernel
theorem dX7_later_15 : decode cX7_later 15 = .ok (.invokespecial 179, 3) := by decide +kernel
theorem dX7_later_18 : decode cX7_later 18 = .ok (.athrow, 1) := by decide +kernel
theorem dX7_later_19 : decode cX7_later 19 = .ok (.aload_n 0, 1) := by decide +kernel
theorem dX7_later_20 : decode cX7_later 20 = .ok (.getfield 37, 3) := by decide +kernel
theorem dX7_later_23 : decode cX7_later 23 = .ok (.getfield 81, 3) := by decide +kernel
theorem dX7_later_26 : decode cX7_later 26 = .ok (.astore_n 2, 1) := by decide +kernel
theorem dX7_later_27 : decode cX7_later 27 = .ok (.aload_n 0, 1) := by decide +kernel
theorem dX7_later_28 : decode cX7_later 28 = .ok (.getfield 30, 3) := by decide +kernel
theorem dX7_later_31 : decode cX7_later 31 = .ok (.aload_n 0, 1) := by decide +kernel
theorem dX7_later_32 : decode cX7_later 32 = .ok (.getfield 30, 3) := by decide +kernel
theorem dX7_later_35 : decode cX7_later 35 = .ok (.aload_n 2, 1) := by decide +kernel
theorem dX7_later_36 : decode cX7_later 36 = .ok (.getfield 99, 3) := by decide +kernel
theorem dX7_later_39 : decode cX7_later 39 = .ok (.aload_n 2, 1) := by decide +kernel
theorem dX7_later_40 : decode cX7_later 40 = .ok (.getfield 96, 3) := by decide +kernel
theorem dX7_later_43 : decode cX7_later 43 = .ok (.invokevirtual 328, 3) := by decide +kernel
theorem dX7_later_46 : decode cX7_later 46 = .ok (.iload_n 1, 1) := by decide +kernel
theorem dX7_later_47 : decode cX7_later 47 = .ok (.invokevirtual 353, 3) := by decide +kernel
theorem dX7_later_50 : decode cX7_later 50 = .ok (.istore_n 3, 1) := by decide +kernel
theorem dX7_later_51 : decode cX7_later 51 = .ok (.bipush 20, 2) := by decide +kernel
theorem dX7_later_53 : decode cX7_later 53 = .ok (.bipush 99, 2) := by decide +kernel
theorem dX7_later_55 : decode cX7_later 55 = .ok (.aload_n 0, 1) := by decide +kernel
theorem dX7_later_56 : decode cX7_later 56 = .ok (.getfield 30, 3) := by decide +kernel
theorem dX7_later_59 : decode cX7_later 59 = .ok (.getfield 323, 3) := by decide +kernel
theorem dX7_later_62 : decode cX7_later 62 = .ok (.getfield 237, 3) := by decide +kernel
theorem dX7_later_65 : decode cX7_later 65 = .ok (.iload_n 1, 1) := by decide +kernel
theorem dX7_later_66 : decode cX7_later 66 = .ok (.aaload, 1) := by decide +kernel
theorem dX7_later_67 : decode cX7_later 67 = .ok (.getfield 244, 3) := by decide +kernel
theorem dX7_later_70 : decode cX7_later 70 = .ok (.isub, 1) := by decide +kernel
theorem dX7_later_71 : decode cX7_later 71 = .ok (.invokestatic 356, 3) := by decide +kernel
theorem dX7_later_74 : decode cX7_later 74 = .ok (.istore 4, 2) := by decide +kernel
theorem dX7_later_76 : decode cX7_later 76 = .ok (.iload 4, 2) := by decide +kernel
theorem dX7_later_78 : decode cX7_later 78 = .ok (.istore 5, 2) := by decide +kernel
theorem dX7_later_80 : decode cX7_later 80 = .ok (.iload 5, 2) := by decide +kernel
theorem dX7_later_82 : decode cX7_later 82 = .ok (.ifCond .le 49, 3) := by decide +kernel
theorem dX7_later_85 : decode cX7_later 85 = .ok (.iload_n 3, 1) := by decide +kernel
theorem dX7_later_86 : decode cX7_later 86 = .ok (.iconst (-1), 1) := by decide +kernel
theorem dX7_later_87 : decode cX7_later 87 = .ok (.if_icmp .eq 44, 3) := by decide +kernel
theorem dX7_later_90 : decode cX7_later 90 = .ok (.aload_n 0, 1) := by decide +kernel
theorem dX7_later_91 : decode cX7_later 91 = .ok (.getfield 30, 3) := by decide +kernel
theorem dX7_later_94 : decode cX7_later 94 = .ok (.iload_n 1, 1) := by decide +kernel
theorem dX7_later_95 : decode cX7_later 95 = .ok (.iload 5, 2) := by decide +kernel
theorem dX7_later_97 : decode cX7_later 97 = .ok (.aload_n 2, 1) := by decide +kernel
theorem dX7_later_98 : decode cX7_later 98 = .ok (.getfield 99, 3) := by decide +kernel
theorem dX7_later_101 : decode cX7_later 101 = .ok (.aload_n 2, 1) := by decide +kernel
theorem dX7_later_102 : decode cX7_later 102 = .ok (.getfield 96, 3) := by decide +kernel
theorem dX7_later_105 : decode cX7_later 105 = .ok (.invokevirtual 361, 3) := by decide +kernel
theorem dX7_later_108 : decode cX7_later 108 = .ok (.istore 6, 2) := by decide +kernel
theorem dX7_later_110 : decode cX7_later 110 = .ok (.iload 6, 2) := by decide +kernel
theorem dX7_later_112 : decode cX7_later 112 = .ok (.iconst (-1), 1) := by decide +kernel
theorem dX7_later_113 : decode cX7_later 113 = .ok (.if_icmp .eq 12, 3) := by decide +kernel
theorem dX7_later_116 : decode cX7_later 116 = .ok (.iload 6, 2) := by decide +kernel
theorem dX7_later_118 : decode cX7_later 118 = .ok (.iload_n 3, 1) := by decide +kernel
theorem dX7_later_119 : decode cX7_later 119 = .ok (.if_icmp .gt 6, 3) := by decide +kernel
theorem dX7_later_122 : decode cX7_later 122 = .ok (.iload 5, 2) := by decide +kernel
theorem dX7_later_124 : decode cX7_later 124 = .ok (.ireturn, 1) := by decide +kernel
theorem dX7_later_125 : decode cX7_later 125 = .ok (.iinc 5 (-1), 3) := by decide +kernel
theorem dX7_later_128 : decode cX7_later 128 = .ok (.goto (-48), 3) := by decide +kernel
theorem dX7_later_131 : decode cX7_later 131 = .ok (.iconst 0, 1) := by decide +kernel
theorem dX7_later_132 : decode cX7_later 132 = .ok (.ireturn, 1) := by decide +kernel
set_option maxRecDepth 20000 in
set_option maxHeartbeats 4000000 in
theorem vX7_later_0 {l : Launch} {x : CX} {a0 : Nat} {x1 : Int32} {h : PH} {rc rs n0 : Nat} {Q : Option Value → PH → Prop} {X : String → PH → Prop}
    (K : ((hK h a0).1 = 7) ∧ ∃ (q1 : Int32 → PH → Prop), CI l x mX7_isTold 0 0 0 [.ref a0, .int x1] h q1 ∧ ∀ (r5 : Int32) (h4 : PH), q1 r5 h4 → ((¬ r5 = 0 → ((hK h4 a0).1 = 7) ∧ ∃ b8, (hR h4 a0 4 = some b8) ∧ ((hK h4 b8).1 = 3) ∧ ∃ b11, (hR h4 b8 0 = some b11) ∧ ∃ b13, (hR h4 a0 3 = some b13) ∧ ((hK h4 b11).1 = 1) ∧ ((hK h4 b13).1 = 5) ∧ ∃ (q16 : Int32 → PH → Prop), CI l x mX5_run 5 0 0 [.ref b13, .int (hI h4 b11 5), .int (hI h4 b11 4)] h4 q16 ∧ ∀ (r20 : Int32) (h19 : PH), q16 r20 h19 → ((hK h19 b13).1 = 5) ∧ ∃ (q21 : Int32 → PH → Prop), CI l x mX5_doneTime 0 0 0 [.ref b13, .int r20, .int x1] h19 q21 ∧ ∀ (r25 : Int32) (h24 : PH), q21 r25 h24 → ((hK h24 a0).1 = 7) ∧ ∃ b27, (hR h24 a0 3 = some b27) ∧ ((hK h24 b27).1 = 5) ∧ ∃ b30, (hR h24 b27 0 = some b30) ∧ ((hK h24 b30).1 = 1) ∧ ∃ b33, (hR h24 b30 14 = some b33) ∧ ((hK h24 b33).1 = 106) ∧ (vp_in x1 (hK h24 b33).2) ∧ ∃ b37, (hR h24 b33 x1.toNatClampNeg = some b37) ∧ ((hK h24 b37).1 = 6) ∧ ∀ (y40 : Int32), y40 = (if (99 - (hI h24 b37 1)) < 20 then (99 - (hI h24 b37 1)) else 20) → Gm l x mX7_later 8 80 [(0, .ref a0), (1, .int x1), (2, .ref b11), (3, .int r25), (4, .int y40), (5, .int y40)] [] h24 rc rs n0 Q X) ∧ (r5 = 0 → ThrowOk x RX7 "java/util/NoSuchElementException" "no such rider of the text" ["java/lang/RuntimeException", "java/lang/Exception"] 351 179 ∧ 1 ≤ rc ∧ 6 ≤ rs ∧ X "java/util/NoSuchElementException" h4))) :
    Gm l x mX7_later 8 0 [(0, .ref a0), (1, .int x1)] [] h rc rs n0 Q X := by
  refine g_aload_n dX7_later_0 rfl 0 rfl ?_
  refine g_iload_n dX7_later_1 rfl 1 rfl ?_
  obtain ⟨e3, K⟩ := K
  obtain ⟨q1, C2, K⟩ := K
  refine g_callV (M' := mX7_isTold) (b := a0) (As := [.int x1]) (rest := []) (rc' := rc) (rs' := rs) dX7_later_2 bw_656 bw_658 bs_19 bw_1 bw_659 ⟨by decide +kernel, by decide +kernel, show (parseMethodDescriptor mX7_isTold.1.desc).map (fun d => d.parameters.length) = some 1 by decide +kernel⟩ (by decide) (by decide) (Nat.le_of_ble_eq_true rfl) fc_7 (by decide) rfl e3 C2 (Nat.le_of_eq (Nat.add_zero _)) (Nat.le_of_eq (Nat.add_zero _)) (fun _ _ h => h) ?_
  rintro _ h4 ⟨r5, rfl, K1⟩ -
  replace K := K r5 h4 K1
  show Gm l x mX7_later 8 5 [(0, .ref a0), (1, .int x1)] [.int r5] h4 rc rs n0 Q X
  refine g_if_ne (tgt := 19) dX7_later_5 (by decide) (fun c6 => ?_) (fun c6 => ?_)
  · replace K := K.1 c6
    refine g_aload_n dX7_later_19 rfl 0 rfl ?_
    obtain ⟨e7, b8, e9, K⟩ := K
    refine g_get (c := 7) (k := 4) (v := .ref b8) dX7_later_20 fc_7 (by decide) (by decide) bw_406 (congrArg pr e9) e7 ?_
    obtain ⟨e10, b11, e12, K⟩ := K
    refine g_get (c := 3) (k := 0) (v := .ref b11) dX7_later_23 fc_3 (by decide) (by decide) bw_378 (congrArg pr e12) e10 ?_
    refine g_astore_n (lv' := [(0, .ref a0), (1, .int x1), (2, .ref b11)]) dX7_later_26 rfl (by decide) rfl ?_
    refine g_aload_n dX7_later_27 rfl 0 rfl ?_
    obtain ⟨b13, e14, K⟩ := K
    refine g_get (c := 7) (k := 3) (v := .ref b13) dX7_later_28 fc_7 (by decide) (by decide) bw_405 (congrArg pr e14) e7 ?_
    refine g_aload_n dX7_later_31 rfl 0 rfl ?_
    refine g_get (c := 7) (k := 3) (v := .ref b13) dX7_later_32 fc_7 (by decide) (by decide) bw_405 (congrArg pr e14) e7 ?_
    refine g_aload_n dX7_later_35 rfl 2 rfl ?_
    obtain ⟨e15, K⟩ := K
    refine g_get (c := 1) (k := 5) (v := .int (hI h4 b11 5)) dX7_later_36 fc_1 (by decide) (by decide) bw_207 rfl e15 ?_
    refine g_aload_n dX7_later_39 rfl 2 rfl ?_
    refine g_get (c := 1) (k := 4) (v := .int (hI h4 b11 4)) dX7_later_40 fc_1 (by decide) (by decide) bw_203 rfl e15 ?_
    obtain ⟨e18, K⟩ := K
    obtain ⟨q16, C17, K⟩ := K
    refine g_callV (M' := mX5_run) (b := b13) (As := [.int (hI h4 b11 5), .int (hI h4 b11 4)]) (rest := [.ref b13]) (rc' := rc) (rs' := rs) dX7_later_43 bw_1074 bw_930 bw_931 bw_6 bw_932 ⟨by decide +kernel, by decide +kernel, show (parseMethodDescriptor mX5_run.1.desc).map (fun d => d.parameters.length) = some 2 by decide +kernel⟩ (by decide) (by decide) (Nat.le_of_ble_eq_true rfl) fc_5 (by decide) rfl e18 C17 (Nat.le_of_eq (Nat.add_zero _)) (Nat.le_of_eq (Nat.add_zero _)) (fun _ _ h => h) ?_
    rintro _ h19 ⟨r20, rfl, K1⟩ -
    replace K := K r20 h19 K1
    show Gm l x mX7_later 8 46 [(0, .ref a0), (1, .int x1), (2, .ref b11)] [.int r20, .ref b13] h19 rc rs n0 Q X
    refine g_iload_n dX7_later_46 rfl 1 rfl ?_
    obtain ⟨e23, K⟩ := K
    obtain ⟨q21, C22, K⟩ := K
    refine g_callV (M' := mX5_doneTime) (b := b13) (As := [.int r20, .int x1]) (rest := []) (rc' := rc) (rs' := rs) dX7_later_47 bw_1103 bw_1104 bw_1105 bw_6 bw_1106 ⟨by decide +kernel, by decide +kernel, show (parseMethodDescriptor mX5_doneTime.1.desc).map (fun d => d.parameters.length) = some 2 by decide +kernel⟩ (by decide) (by decide) (Nat.le_of_ble_eq_true rfl) fc_5 (by decide) rfl e23 C22 (Nat.le_of_eq (Nat.add_zero _)) (Nat.le_of_eq (Nat.add_zero _)) (fun _ _ h => h) ?_
    rintro _ h24 ⟨r25, rfl, K1⟩ -
    replace K := K r25 h24 K1
    show Gm l x mX7_later 8 50 [(0, .ref a0), (1, .int x1), (2, .ref b11)] [.int r25] h24 rc rs n0 Q X
    refine g_istore_n (lv' := [(0, .ref a0), (1, .int x1), (2, .ref b11), (3, .int r25)]) dX7_later_50 rfl (by decide) rfl ?_
    refine g_bipush (v := 20) dX7_later_51 (by decide) ?_
    refine g_bipush (v := 99) dX7_later_53 (by decide) ?_
    refine g_aload_n dX7_later_55 rfl 0 rfl ?_
    obtain ⟨e26, b27, e28, K⟩ := K
    refine g_get (c := 7) (k := 3) (v := .ref b27) dX7_later_56 fc_7 (by decide) (by decide) bw_405 (congrArg pr e28) e26 ?_
    obtain ⟨e29, b30, e31, K⟩ := K
    refine g_get (c := 5) (k := 0) (v := .ref b30) dX7_later_59 fc_5 (by decide) (by decide) bw_315 (congrArg pr e31) e29 ?_
    obtain ⟨e32, b33, e34, K⟩ := K
    refine g_get (c := 1) (k := 14) (v := .ref b33) dX7_later_62 fc_1 (by decide) (by decide) bw_228 (congrArg pr e34) e32 ?_
    refine g_iload_n dX7_later_65 rfl 1 rfl ?_
    obtain ⟨e35, e36, b37, e38, K⟩ := K
    refine g_aald (t := 6) (v := .ref b37) dX7_later_66 (Or.inr (Or.inl rfl)) e35 e36 (congrArg pr e38) ?_
    obtain ⟨e39, K⟩ := K
    refine g_get (c := 6) (k := 1) (v := .int (hI h24 b37 1)) dX7_later_67 fc_6 (by decide) (by decide) bw_134 rfl e39 ?_
    refine g_isub dX7_later_70 ?_
    refine g_min dX7_later_71 bw_1107 bw_765 bw_14 bw_766 (by decide) (Nat.le_of_ble_eq_true rfl) ?_
    refine g_nmI (fun y40 e41 => ?_)
    replace K := K y40 e41
    refine g_istore (lv' := [(0, .ref a0), (1, .int x1), (2, .ref b11), (3, .int r25), (4, .int y40)]) dX7_later_74 (by decide) rfl ?_
    refine g_iload dX7_later_76 4 rfl ?_
    refine g_istore (lv' := [(0, .ref a0), (1, .int x1), (2, .ref b11), (3, .int r25), (4, .int y40), (5, .int y40)]) dX7_later_78 (by decide) rfl ?_
    exact K
  · replace K := K.2 c6
    exact g_throwW (cls := "java/util/NoSuchElementException") (text := "no such rider of the text") (names := ["java/lang/RuntimeException", "java/lang/Exception"]) (by decide) (by decide) bw_977 bw_22 K.1.1 K.1.2 dX7_later_8 dX7_later_11 dX7_later_12 dX7_later_15 dX7_later_18 (by decide) (Nat.le_of_ble_eq_true rfl) K.2.1 K.2.2.1 K.2.2.2
set_option maxRecDepth 20000 in
set_option maxHeartbeats 4000000 in
theorem vX7_later_80 {l : Launch} {x : CX} {a0 : Nat} {x1 : Int32} {a2 : Nat} {x3 : Int32} {x4 : Int32} {x5 : Int32} {h : PH} {rc rs n0 : Nat} {Q : Option Value → PH → Prop} {X : String → PH → Prop}
    (K : ((x5 ≤ 0 → Q (some (.int 0)) h) ∧ (¬ x5 ≤ 0 → ((x3 = (-1) → Q (some (.int 0)) h) ∧ (¬ x3 = (-1) → ((hK h a0).1 = 7) ∧ ∃ b4, (hR h a0 3 = some b4) ∧ ((hK h a2).1 = 1) ∧ ((hK h b4).1 = 5) ∧ ∃ (q7 : Int32 → PH → Prop), CI l x mX5_doneIfLater 5 0 0 [.ref b4, .int x1, .int x5, .int (hI h a2 5), .int (hI h a2 4)] h q7 ∧ ∀ (r11 : Int32) (h10 : PH), q7 r11 h10 → ((r11 = (-1) → Gm l x mX7_later 8 80 [(0, .ref a0), (1, .int x1), (2, .ref a2), (3, .int x3), (4, .int x4), (5, .int (x5 + (-1)))] [] h10 rc rs n0 Q X) ∧ (¬ r11 = (-1) → ((x3 < r11 → Gm l x mX7_later 8 80 [(0, .ref a0), (1, .int x1), (2, .ref a2), (3, .int x3), (4, .int x4), (5, .int (x5 + (-1)))] [] h10 rc rs n0 Q X) ∧ (¬ x3 < r11 → Q (some (.int x5)) h10))))))))) :
    Gm l x mX7_later 8 80 [(0, .ref a0), (1, .int x1), (2, .ref a2), (3, .int x3), (4, .int x4), (5, .int x5)] [] h rc rs n0 Q X := by
  refine g_iload dX7_later_80 5 rfl ?_
  refine g_if_le (tgt := 131) dX7_later_82 (by decide) (fun c1 => ?_) (fun c1 => ?_)
  · replace K := K.1 c1
    refine g_iconst (v := 0) dX7_later_131 (by decide) ?_
    exact g_iret dX7_later_132 rfl K
  · replace K := K.2 c1
    refine g_iload_n dX7_later_85 rfl 3 rfl ?_
    refine g_iconst (v := (-1)) dX7_later_86 (by decide) ?_
    refine g_icmp_eq (tgt := 131) dX7_later_87 (by decide) (fun c2 => ?_) (fun c2 => ?_)
    · replace K := K.1 c2
      refine g_iconst (v := 0) dX7_later_131 (by decide) ?_
      exact g_iret dX7_later_132 rfl K
    · replace K := K.2 c2
      refine g_aload_n dX7_later_90 rfl 0 rfl ?_
      obtain ⟨e3, b4, e5, K⟩ := K
      refine g_get (c := 7) (k := 3) (v := .ref b4) dX7_later_91 fc_7 (by decide) (by decide) bw_405 (congrArg pr e5) e3 ?_
      refine g_iload_n dX7_later_94 rfl 1 rfl ?_
      refine g_iload dX7_later_95 5 rfl ?_
      refine g_aload_n dX7_later_97 rfl 2 rfl ?_
      obtain ⟨e6, K⟩ := K
      refine g_get (c := 1) (k := 5) (v := .int (hI h a2 5)) dX7_later_98 fc_1 (by decide) (by decide) bw_207 rfl e6 ?_
      refine g_aload_n dX7_later_101 rfl 2 rfl ?_
      refine g_get (c := 1) (k := 4) (v := .int (hI h a2 4)) dX7_later_102 fc_1 (by decide) (by decide) bw_203 rfl e6 ?_
      obtain ⟨e9, K⟩ := K
      obtain ⟨q7, C8, K⟩ := K
      refine g_callV (M' := mX5_doneIfLater) (b := b4) (As := [.int x1, .int x5, .int (hI h a2 5), .int (hI h a2 4)]) (rest := []) (rc' := rc) (rs' := rs) dX7_later_105 bw_1108 bw_1109 bw_1110 bw_6 bw_1111 ⟨by decide +kernel, by decide +kernel, show (parseMethodDescriptor mX5_doneIfLater.1.desc).map (fun d => d.parameters.length) = some 4 by decide +kernel⟩ (by decide) (by decide) (Nat.le_of_ble_eq_true rfl) fc_5 (by decide) rfl e9 C8 (Nat.le_of_eq (Nat.add_zero _)) (Nat.le_of_eq (Nat.add_zero _)) (fun _ _ h => h) ?_
      rintro _ h10 ⟨r11, rfl, K1⟩ -
      replace K := K r11 h10 K1
      show Gm l x mX7_later 8 108 [(0, .ref a0), (1, .int x1), (2, .ref a2), (3, .int x3), (4, .int x4), (5, .int x5)] [.int r11] h10 rc rs n0 Q X
      refine g_istore (lv' := [(0, .ref a0), (1, .int x1), (2, .ref a2), (3, .int x3), (4, .int x4), (5, .int x5), (6, .int r11)]) dX7_later_108 (by decide) rfl ?_
      refine g_iload dX7_later_110 6 rfl ?_
      refine g_iconst (v := (-1)) dX7_later_112 (by decide) ?_
      refine g_icmp_eq (tgt := 125) dX7_later_113 (by decide) (fun c12 => ?_) (fun c12 => ?_)
      · replace K := K.1 c12
        refine g_iinc (v := (x5 + (-1))) (lv' := [(0, .ref a0), (1, .int x1), (2, .ref a2), (3, .int x3), (4, .int x4), (5, .int (x5 + (-1))), (6, .int r11)]) dX7_later_125 5 rfl (by rfl) (by decide) rfl ?_
        refine g_goto (tgt := 80) dX7_later_128 (by decide) ?_
        exact Gm.sub [0, 1, 2, 3, 4, 5] rfl K
      · replace K := K.2 c12
        refine g_iload dX7_later_116 6 rfl ?_
        refine g_iload_n dX7_later_118 rfl 3 rfl ?_
        refine g_icmp_gt (tgt := 125) dX7_later_119 (by decide) (fun c13 => ?_) (fun c13 => ?_)
        · replace K := K.1 c13
          refine g_iinc (v := (x5 + (-1))) (lv' := [(0, .ref a0), (1, .int x1), (2, .ref a2), (3, .int x3), (4, .int x4), (5, .int (x5 + (-1))), (6, .int r11)]) dX7_later_125 5 rfl (by rfl) (by decide) rfl ?_
          refine g_goto (tgt := 80) dX7_later_128 (by decide) ?_
          exact Gm.sub [0, 1, 2, 3, 4, 5] rfl K
        · replace K := K.2 c13
          refine g_iload dX7_later_122 5 rfl ?_
          exact g_iret dX7_later_124 rfl K
theorem dX7_fits_0 : decode cX7_fits 0 = .ok (.iload_n 1, 1) := by decide +kernel
theorem dX7_fits_1 : decode cX7_fits 1 = .ok (.ifCond .lt 8, 3) := by decide +kernel
theorem dX7_fits_4 : decode cX7_fits 4 = .ok (.iload_n 1, 1) := by decide +kernel
theorem dX7_fits_5 : decode cX7_fits 5 = .ok (.iconst 1, 1) := by decide +kernel
theorem dX7_fits_6 : decode cX7_fits 6 = .ok (.if_icmp .le 14, 3) := by decide +kernel
theorem dX7_fits_9 : decode cX7_fits 9 = .ok (.new 175, 3) := by decide +kernel
theorem dX7_fits_12 : decode cX7_fits 12 = .ok (.dup, 1) := by decide +kernel
theorem dX7_fits_13 : decode cX7_fits 13 = .ok (.ldc_w 370, 3) := by decide +kernel
theorem dX7_fits_16 : decode cX7_fits 16 = .ok (.invokespecial 179, 3) := by decide +kernel
theorem dX7_fits_19 : decode cX7_fits 19 = .ok (.athrow, 1) := by decide +kernel
theorem dX7_fits_20 : decode cX7_fits 20 = .ok (.aload_n 0, 1) := by decide +kernel
theorem dX7_fits_21 : decode cX7_fits 21 = .ok (.invokevirtual 372, 3) := by decide +kernel
theorem dX7_fits_24 : decode cX7_fits 24 = .ok (.lstore_n 2, 1) := by decide +kernel
theorem dX7_fits_25 : decode cX7_fits 25 = .ok (.iload_n 1, 1) := by decide +kernel
theorem dX7_fits_26 : decode cX7_fits 26 = .ok (.ifCond .ne 8, 3) := by decide +kernel
theorem dX7_fits_29 : decode cX7_fits 29 = .ok (.lload_n 2, 1) := by decide +kernel
theorem dX7_fits_30 : decode cX7_fits 30 = .ok (.invokestatic 121, 3) := by decide +kernel
theorem dX7_fits_33 : decode cX7_fits 33 = .ok (.ireturn, 1) := by decide +kernel
theorem dX7_fits_34 : decode cX7_fits 34 = .ok (.lload_n 2, 1) := by decide +kernel
theorem dX7_fits_35 : decode cX7_fits 35 = .ok (.lconst 0, 1) := by decide +kernel
theorem dX7_fits_36 : decode cX7_fits 36 = .ok (.lcmp, 1) := by decide +kernel
theorem dX7_fits_37 : decode cX7_fits 37 = .ok (.ifCond .ne 7, 3) := by decide +kernel
theorem dX7_fits_40 : decode cX7_fits 40 = .ok (.iconst (-1), 1) := by decide +kernel
theorem dX7_fits_41 : decode cX7_fits 41 = .ok (.goto 7, 3) := by decide +kernel
theorem dX7_fits_44 : decode cX7_fits 44 = .ok (.lload_n 2, 1) := by decide +kernel
theorem dX7_fits_45 : decode cX7_fits 45 = .ok (.invokestatic 375, 3) := by decide +kernel
theorem dX7_fits_48 : decode cX7_fits 48 = .ok (.ireturn, 1) := by decide +kernel
set_option maxRecDepth 20000 in
set_option maxHeartbeats 4000000 in
theorem vX7_fits_0 {l : Launch} {x : CX} {a0 : Nat} {x1 : Int32} {h : PH} {rc rs n0 : Nat} {Q : Option Value → PH → Prop} {X : String → PH → Prop}
    (K : ((x1 < 0 → ThrowOk x RX7 "java/util/NoSuchElementException" "no such what of fits" ["java/lang/RuntimeException", "java/lang/Exception"] 370 179 ∧ 1 ≤ rc ∧ 6 ≤ rs ∧ X "java/util/NoSuchElementException" h) ∧ (¬ x1 < 0 → ((x1 ≤ 1 → ((hK h a0).1 = 7) ∧ ∃ (q4 : Int64 → PH → Prop), CJ l x mX7_allThatFit 6 0 0 [.ref a0] h q4 ∧ ∀ (r8 : Int64) (h7 : PH), q4 r8 h7 → ((¬ x1 = 0 → ((¬ (lg_cmp r8 0) = 0 → ∃ (q11 : Int32 → PH → Prop), CI l x mJ13_numberOfTrailingZeros_95d88 1 0 0 [.long r8] h7 q11 ∧ ∀ (r14 : Int32) (h13 : PH), q11 r14 h13 → Q (some (.int r14)) h13) ∧ ((lg_cmp r8 0) = 0 → Q (some (.int (-1))) h7))) ∧ (x1 = 0 → ∃ (q15 : Int32 → PH → Prop), CI l x mJ13_bitCount_95d88 0 0 0 [.long r8] h7 q15 ∧ ∀ (r18 : Int32) (h17 : PH), q15 r18 h17 → Q (some (.int r18)) h17))) ∧ (¬ x1 ≤ 1 → ThrowOk x RX7 "java/util/NoSuchElementException" "no such what of fits" ["java/lang/RuntimeException", "java/lang/Exception"] 370 179 ∧ 1 ≤ rc ∧ 6 ≤ rs ∧ X "java/util/NoSuchElementException" h))))) :
    Gm l x mX7_fits 8 0 [(0, .ref a0), (1, .int x1)] [] h rc rs n0 Q X := by
  refine g_iload_n dX7_fits_0 rfl 1 rfl ?_
  refine g_if_lt (tgt := 9) dX7_fits_1 (by decide) (fun c1 => ?_) (fun c1 => ?_)
  · replace K := K.1 c1
    exact g_throwW (cls := "java/util/NoSuchElementException") (text := "no such what of fits") (names := ["java/lang/RuntimeException", "java/lang/Exception"]) (by decide) (by decide) bw_977 bw_22 K.1.1 K.1.2 dX7_fits_9 dX7_fits_12 dX7_fits_13 dX7_fits_16 dX7_fits_19 (by decide) (Nat.le_of_ble_eq_true rfl) K.2.1 K.2.2.1 K.2.2.2
  · replace K := K.2 c1
    refine g_iload_n dX7_fits_4 rfl 1 rfl ?_
    refine g_iconst (v := 1) dX7_fits_5 (by decide) ?_
    refine g_icmp_le (tgt := 20) dX7_fits_6 (by decide) (fun c3 => ?_) (fun c3 => ?_)
    · replace K := K.1 c3
      refine g_aload_n dX7_fits_20 rfl 0 rfl ?_
      obtain ⟨e6, K⟩ := K
      obtain ⟨q4, C5, K⟩ := K
      refine g_callV (M' := mX7_allThatFit) (b := a0) (As := []) (rest := []) (rc' := rc) (rs' := rs) dX7_fits_21 bw_1120 bw_1122 bs_33 bw_1 bw_1123 ⟨by decide +kernel, by decide +kernel, show (parseMethodDescriptor mX7_allThatFit.1.desc).map (fun d => d.parameters.length) = some 0 by decide +kernel⟩ (by decide) (by decide) (Nat.le_of_ble_eq_true rfl) fc_7 (by decide) rfl e6 C5 (Nat.le_of_eq (Nat.add_zero _)) (Nat.le_of_eq (Nat.add_zero _)) (fun _ _ h => h) ?_
      rintro _ h7 ⟨r8, rfl, K1⟩ -
      replace K := K r8 h7 K1
      show Gm l x mX7_fits 8 24 [(0, .ref a0), (1, .int x1)] [.long r8] h7 rc rs n0 Q X
      refine g_lstore_n (lv' := [(0, .ref a0), (1, .int x1), (2, .long r8)]) dX7_fits_24 rfl (by decide) rfl ?_
      refine g_iload_n dX7_fits_25 rfl 1 rfl ?_
      refine g_if_ne (tgt := 34) dX7_fits_26 (by decide) (fun c9 => ?_) (fun c9 => ?_)
      · replace K := K.1 c9
        refine g_lload_n dX7_fits_34 rfl 2 rfl ?_
        refine g_lconst (v := 0) dX7_fits_35 (by decide) ?_
        refine g_lcmp dX7_fits_36 ?_
        refine g_if_ne (tgt := 44) dX7_fits_37 (by decide) (fun c10 => ?_) (fun c10 => ?_)
        · replace K := K.1 c10
          refine g_lload_n dX7_fits_44 rfl 2 rfl ?_
          obtain ⟨q11, C12, K⟩ := K
          refine g_callS (M' := mJ13_numberOfTrailingZeros_95d88) (As := [.long r8]) (rest := []) (rc' := rc) (rs' := rs) dX7_fits_45 bw_1124 bw_1125 bw_20 bw_1126 ⟨by decide +kernel, by decide +kernel, show (parseMethodDescriptor mJ13_numberOfTrailingZeros_95d88.1.desc).map (fun d => d.parameters.length) = some 1 by decide +kernel⟩ (by decide) (by decide) (Nat.le_of_ble_eq_true rfl) C12 (Nat.le_of_eq (Nat.add_zero _)) (Nat.le_of_eq (Nat.add_zero _)) (fun _ _ h => h) ?_
          rintro _ h13 ⟨r14, rfl, K1⟩ -
          replace K := K r14 h13 K1
          show Gm l x mX7_fits 8 48 [(0, .ref a0), (1, .int x1), (2, .long r8)] [.int r14] h13 rc rs n0 Q X
          exact g_iret dX7_fits_48 rfl K
        · replace K := K.2 c10
          refine g_iconst (v := (-1)) dX7_fits_40 (by decide) ?_
          refine g_goto (tgt := 48) dX7_fits_41 (by decide) ?_
          exact g_iret dX7_fits_48 rfl K
      · replace K := K.2 c9
        refine g_lload_n dX7_fits_29 rfl 2 rfl ?_
        obtain ⟨q15, C16, K⟩ := K
        refine g_callS (M' := mJ13_bitCount_95d88) (As := [.long r8]) (rest := []) (rc' := rc) (rs' := rs) dX7_fits_30 bw_907 bw_908 bw_20 bw_909 ⟨by decide +kernel, by decide +kernel, show (parseMethodDescriptor mJ13_bitCount_95d88.1.desc).map (fun d => d.parameters.length) = some 1 by decide +kernel⟩ (by decide) (by decide) (Nat.le_of_ble_eq_true rfl) C16 (Nat.le_of_eq (Nat.add_zero _)) (Nat.le_of_eq (Nat.add_zero _)) (fun _ _ h => h) ?_
        rintro _ h17 ⟨r18, rfl, K1⟩ -
        replace K := K r18 h17 K1
        show Gm l x mX7_fits 8 33 [(0, .ref a0), (1, .int x1), (2, .long r8)] [.int r18] h17 rc rs n0 Q X
        exact g_iret dX7_fits_33 rfl K
    · replace K := K.2 c3
      exact g_throwW (cls := "java/util/NoSuchElementException") (text := "no such what of fits") (names := ["java/lang/RuntimeException", "java/lang/Exception"]) (by decide) (by decide) bw_977 bw_22 K.1.1 K.1.2 dX7_fits_9 dX7_fits_12 dX7_fits_13 dX7_fits_16 dX7_fits_19 (by decide) (Nat.le_of_ble_eq_true rfl) K.2.1 K.2.2.1 K.2.2.2
theorem dX7_look_0 : decode cX7_look 0 = .ok (.iload_n 1, 1) := by decide +kernel
theorem dX7_look_1 : decode cX7_look 1 = .ok (.ifCond .lt 8, 3) := by decide +kernel
theorem dX7_look_4 : decode cX7_look 4 = .ok (.iload_n 1, 1) := by decide +kernel
theorem dX7_look_5 : decode cX7_look 5 = .ok (.iconst 1, 1) := by decide +kernel
theorem dX7_look_6 : decode cX7_look 6 = .ok (.if_icmp .le 14, 3) := by decide +kernel
theorem dX7_look_9 : decode cX7_look 9 = .ok (.new 175, 3) := by decide +kernel
theorem dX7_look_12 : decode cX7_look 12 = .ok (.dup, 1) := by decide +kernel
theorem dX7_look_13 : decode cX7_look 13 = .ok (.ldc_w 378, 3) := by decide +kernel
theorem dX7_look_16 : decode cX7_look 16 = .ok (.invokespecial 179, 3) := by decide +kernel
theorem dX7_look_19 : decode cX7_look 19 = .ok (.athrow, 1) := by decide +kernel
theorem dX7_look_20 : decode cX7_look 20 = .ok (.aload_n 0, 1) := by decide +kernel
theorem dX7_look_21 : decode cX7_look 21 = .ok (.invokevirtual 372, 3) := by decide +kernel
theorem dX7_look_24 : decode cX7_look 24 = .ok (.lstore_n 2, 1) := by decide +kernel
theorem dX7_look_25 : decode cX7_look 25 = .ok (.iconst (-1), 1) := by decide +kernel
theorem dX7_look_26 : decode cX7_look 26 = .ok (.istore 4, 2) := by decide +kernel
theorem dX7_look_28 : decode cX7_look 28 = .ok (.iconst 0, 1) := by decide +kernel
theorem dX7_look_29 : decode cX7_look 29 = .ok (.istore 5, 2) := by decide +kernel
theorem dX7_look_31 : decode cX7_look 31 = .ok (.iconst 0, 1) := by decide +kernel
theorem dX7_look_32 : decode cX7_look 32 = .ok (.istore 6, 2) := by decide +kernel
theorem dX7_look_34 : decode cX7_look 34 = .ok (.iload 6, 2) := by decide +kernel
theorem dX7_look_36 : decode cX7_look 36 = .ok (.aload_n 0, 1) := by decide +kernel
theorem dX7_look_37 : decode cX7_look 37 = .ok (.getfield 30, 3) := by decide +kernel
theorem dX7_look_40 : decode cX7_look 40 = .ok (.getfield 323, 3) := by decide +kernel
theorem dX7_look_43 : decode cX7_look 43 = .ok (.getfield 90, 3) := by decide +kernel
theorem dX7_look_46 : decode cX7_look 46 = .ok (.if_icmp .ge 36, 3) := by decide +kernel
theorem dX7_look_49 : decode cX7_look 49 = .ok (.aload_n 0, 1) := by decide +kernel
theorem dX7_look_50 : decode cX7_look 50 = .ok (.getfield 30, 3) := by decide +kernel
theorem dX7_look_53 : decode cX7_look 53 = .ok (.iload 6, 2) := by decide +kernel
theorem dX7_look_55 : decode cX7_look 55 = .ok (.lload_n 2, 1) := by decide +kernel
theorem dX7_look_56 : decode cX7_look 56 = .ok (.invokevirtual 380, 3) := by decide +kernel
theorem dX7_look_59 : decode cX7_look 59 = .ok (.istore 7, 2) := by decide +kernel
theorem dX7_look_61 : decode cX7_look 61 = .ok (.iload 7, 2) := by decide +kernel
theorem dX7_look_63 : decode cX7_look 63 = .ok (.iload 5, 2) := by decide +kernel
theorem dX7_look_65 : decode cX7_look 65 = .ok (.if_icmp .le 11, 3) := by decide +kernel
theorem dX7_look_68 : decode cX7_look 68 = .ok (.iload 6, 2) := by decide +kernel
theorem dX7_look_70 : decode cX7_look 70 = .ok (.istore 4, 2) := by decide +kernel
theorem dX7_look_72 : decode cX7_look 72 = .ok (.iload 7, 2) := by decide +kernel
theorem dX7_look_74 : decode cX7_look 74 = .ok (.istore 5, 2) := by decide +kernel
theorem dX7_look_76 : decode cX7_look 76 = .ok (.iinc 6 1, 3) := by decide +kernel
theorem dX7_look_79 : decode cX7_look 79 = .ok (.goto (-45), 3) := by decide +kernel
theorem dX7_look_82 : decode cX7_look 82 = .ok (.iload_n 1, 1) := by decide +kernel
theorem dX7_look_83 : decode cX7_look 83 = .ok (.ifCond .ne 8, 3) := by decide +kernel
theorem dX7_look_86 : decode cX7_look 86 = .ok (.iload 4, 2) := by decide +kernel
theorem dX7_look_88 : decode cX7_look 88 = .ok (.goto 5, 3) := by decide +kernel
theorem dX7_look_91 : decode cX7_look 91 = .ok (.iload 5, 2) := by decide +kernel
theorem dX7_look_93 : decode cX7_look 93 = .ok (.ireturn, 1) := by decide +kernel
set_option maxRecDepth 20000 in
set_option maxHeartbeats 4000000 in
theorem vX7_look_0 {l : Launch} {x : CX} {a0 : Nat} {x1 : Int32} {h : PH} {rc rs n0 : Nat} {Q : Option Value → PH → Prop} {X : String → PH → Prop}
    (K : ((x1 < 0 → ThrowOk x RX7 "java/util/NoSuchElementException" "no such what of look" ["java/lang/RuntimeException", "java/lang/Exception"] 378 179 ∧ 1 ≤ rc ∧ 6 ≤ rs ∧ X "java/util/NoSuchElementException" h) ∧ (¬ x1 < 0 → ((x1 ≤ 1 → ((hK h a0).1 = 7) ∧ ∃ (q4 : Int64 → PH → Prop), CJ l x mX7_allThatFit 6 0 0 [.ref a0] h q4 ∧ ∀ (r8 : Int64) (h7 : PH), q4 r8 h7 → Gm l x mX7_look 8 34 [(0, .ref a0), (1, .int x1), (2, .long r8), (4, .int (-1)), (5, .int 0), (6, .int 0)] [] h7 rc rs n0 Q X) ∧ (¬ x1 ≤ 1 → ThrowOk x RX7 "java/util/NoSuchElementException" "no such what of look" ["java/lang/RuntimeException", "java/lang/Exception"] 378 179 ∧ 1 ≤ rc ∧ 6 ≤ rs ∧ X "java/util/NoSuchElementException" h))))) :
    Gm l x mX7_look 8 0 [(0, .ref a0), (1, .int x1)] [] h rc rs n0 Q X := by
  refine g_iload_n dX7_look_0 rfl 1 rfl ?_
  refine g_if_lt (tgt := 9) dX7_look_1 (by decide) (fun c1 => ?_) (fun c1 => ?_)
  · replace K := K.1 c1
    exact g_throwW (cls := "java/util/NoSuchElementException") (text := "no such what of look") (names := ["java/lang/RuntimeException", "java/lang/Exception"]) (by decide) (by decide) bw_977 bw_22 K.1.1 K.1.2 dX7_look_9 dX7_look_12 dX7_look_13 dX7_look_16 dX7_look_19 (by decide) (Nat.le_of_ble_eq_true rfl) K.2.1 K.2.2.1 K.2.2.2
  · replace K := K.2 c1
    refine g_iload_n dX7_look_4 rfl 1 rfl ?_
    refine g_iconst (v := 1) dX7_look_5 (by decide) ?_
    refine g_icmp_le (tgt := 20) dX7_look_6 (by decide) (fun c3 => ?_) (fun c3 => ?_)
    · replace K := K.1 c3
      refine g_aload_n dX7_look_20 rfl 0 rfl ?_
      obtain ⟨e6, K⟩ := K
      obtain ⟨q4, C5, K⟩ := K
      refine g_callV (M' := mX7_allThatFit) (b := a0) (As := []) (rest := []) (rc' := rc) (rs' := rs) dX7_look_21 bw_1120 bw_1122 bs_33 bw_1 bw_1123 ⟨by decide +kernel, by decide +kernel, show (parseMethodDescriptor mX7_allThatFit.1.desc).map (fun d => d.parameters.length) = some 0 by decide +kernel⟩ (by decide) (by decide) (Nat.le_of_ble_eq_true rfl) fc_7 (by decide) rfl e6 C5 (Nat.le_of_eq (Nat.add_zero _)) (Nat.le_of_eq (Nat.add_zero _)) (fun _ _ h => h) ?_
      rintro _ h7 ⟨r8, rfl, K1⟩ -
      replace K := K r8 h7 K1
      show Gm l x mX7_look 8 24 [(0, .ref a0), (1, .int x1)] [.long r8] h7 rc rs n0 Q X
      refine g_lstore_n (lv' := [(0, .ref a0), (1, .int x1), (2, .long r8)]) dX7_look_24 rfl (by decide) rfl ?_
      refine g_iconst (v := (-1)) dX7_look_25 (by decide) ?_
      refine g_istore (lv' := [(0, .ref a0), (1, .int x1), (2, .long r8), (4, .int (-1))]) dX7_look_26 (by decide) rfl ?_
      refine g_iconst (v := 0) dX7_look_28 (by decide) ?_
      refine g_istore (lv' := [(0, .ref a0), (1, .int x1), (2, .long r8), (4, .int (-1)), (5, .int 0)]) dX7_look_29 (by decide) rfl ?_
      refine g_iconst (v := 0) dX7_look_31 (by decide) ?_
      refine g_istore (lv' := [(0, .ref a0), (1, .int x1), (2, .long r8), (4, .int (-1)), (5, .int 0), (6, .int 0)]) dX7_look_32 (by decide) rfl ?_
      exact K
    · replace K := K.2 c3
      exact g_throwW (cls := "java/util/NoSuchElementException") (text := "no such what of look") (names := ["java/lang/RuntimeException", "java/lang/Exception"]) (by decide) (by decide) bw_977 bw_22 K.1.1 K.1.2 dX7_look_9 dX7_look_12 dX7_look_13 dX7_look_16 dX7_look_19 (by decide) (Nat.le_of_ble_eq_true rfl) K.2.1 K.2.2.1 K.2.2.2
set_option maxRecDepth 20000 in
set_option maxHeartbeats 4000000 in
theorem vX7_look_34 {l : Launch} {x : CX} {a0 : Nat} {x1 : Int32} {l2 : Int64} {x4 : Int32} {x5 : Int32} {x6 : Int32} {h : PH} {rc rs n0 : Nat} {Q : Option Value → PH → Prop} {X : String → PH → Prop}
    (K : ((hK h a0).1 = 7) ∧ ∃ b2, (hR h a0 3 = some b2) ∧ ((hK h b2).1 = 5) ∧ ∃ b5, (hR h b2 0 = some b5) ∧ ((hK h b5).1 = 1) ∧ (((hI h b5 2) ≤ x6 → Q (some (.int (if x1 = 0 then x4 else x5 : Int32))) h) ∧ (¬ (hI h b5 2) ≤ x6 → ∃ (q10 : Int32 → PH → Prop), CI l x mX5_unlike 1 0 0 [.ref b2, .int x6, .long l2] h q10 ∧ ∀ (r13 : Int32) (h12 : PH), q10 r13 h12 → Gm l x mX7_look 8 34 [(0, .ref a0), (1, .int x1), (2, .long l2), (4, .int (if r13 ≤ x5 then x4 else x6 : Int32)), (5, .int (if r13 ≤ x5 then x5 else r13 : Int32)), (6, .int (x6 + 1))] [] h12 rc rs n0 Q X))) :
    Gm l x mX7_look 8 34 [(0, .ref a0), (1, .int x1), (2, .long l2), (4, .int x4), (5, .int x5), (6, .int x6)] [] h rc rs n0 Q X := by
  refine g_iload dX7_look_34 5 rfl ?_
  refine g_aload_n dX7_look_36 rfl 0 rfl ?_
  obtain ⟨e1, b2, e3, K⟩ := K
  refine g_get (c := 7) (k := 3) (v := .ref b2) dX7_look_37 fc_7 (by decide) (by decide) bw_405 (congrArg pr e3) e1 ?_
  obtain ⟨e4, b5, e6, K⟩ := K
  refine g_get (c := 5) (k := 0) (v := .ref b5) dX7_look_40 fc_5 (by decide) (by decide) bw_315 (congrArg pr e6) e4 ?_
  obtain ⟨e7, K⟩ := K
  refine g_get (c := 1) (k := 2) (v := .int (hI h b5 2)) dX7_look_43 fc_1 (by decide) (by decide) bw_194 rfl e7 ?_
  refine g_icmp_ge (tgt := 82) dX7_look_46 (by decide) (fun c8 => ?_) (fun c8 => ?_)
  · replace K := K.1 c8
    refine g_iload_n dX7_look_82 rfl 1 rfl ?_
    have KJ : Gm l x mX7_look 8 93 [(0, .ref a0), (1, .int x1), (2, .long l2), (4, .int x4), (5, .int x5), (6, .int x6)] [.int (if x1 = 0 then x4 else x5 : Int32)] h rc rs n0 Q X := by
      exact g_iret dX7_look_93 rfl K
    refine g_if_ne (tgt := 91) dX7_look_83 (by decide) (fun c9 => ?_) (fun c9 => ?_)
    · refine g_iload dX7_look_91 4 rfl ?_
      first | (simp only [if_neg c9] at KJ; exact KJ) | (simp only [if_neg c9, ite_true, ite_false, eq_self] at KJ; exact KJ) | (simp only [if_neg c9] at KJ ⊢; exact KJ) | exact KJ
    · refine g_iload dX7_look_86 3 rfl ?_
      refine g_goto (tgt := 93) dX7_look_88 (by decide) ?_
      first | (simp only [if_pos c9] at KJ; exact KJ) | (simp only [if_pos c9, ite_true, ite_false, eq_self] at KJ; exact KJ) | (simp only [if_pos c9] at KJ ⊢; exact KJ) | exact KJ
  · replace K := K.2 c8
    refine g_aload_n dX7_look_49 rfl 0 rfl ?_
    refine g_get (c := 7) (k := 3) (v := .ref b2) dX7_look_50 fc_7 (by decide) (by decide) bw_405 (congrArg pr e3) e1 ?_
    refine g_iload dX7_look_53 5 rfl ?_
    refine g_lload_n dX7_look_55 rfl 2 rfl ?_
    obtain ⟨q10, C11, K⟩ := K
    refine g_callV (M' := mX5_unlike) (b := b2) (As := [.int x6, .long l2]) (rest := []) (rc' := rc) (rs' := rs) dX7_look_56 bw_1139 bw_1140 bw_1141 bw_6 bw_1142 ⟨by decide +kernel, by decide +kernel, show (parseMethodDescriptor mX5_unlike.1.desc).map (fun d => d.parameters.length) = some 2 by decide +kernel⟩ (by decide) (by decide) (Nat.le_of_ble_eq_true rfl) fc_5 (by decide) rfl e4 C11 (Nat.le_of_eq (Nat.add_zero _)) (Nat.le_of_eq (Nat.add_zero _)) (fun _ _ h => h) ?_
    rintro _ h12 ⟨r13, rfl, K1⟩ -
    replace K := K r13 h12 K1
    show Gm l x mX7_look 8 59 [(0, .ref a0), (1, .int x1), (2, .long l2), (4, .int x4), (5, .int x5), (6, .int x6)] [.int r13] h12 rc rs n0 Q X
    refine g_istore (lv' := [(0, .ref a0), (1, .int x1), (2, .long l2), (4, .int x4), (5, .int x5), (6, .int x6), (7, .int r13)]) dX7_look_59 (by decide) rfl ?_
    refine g_iload dX7_look_61 6 rfl ?_
    refine g_iload dX7_look_63 4 rfl ?_
    have KJ : Gm l x mX7_look 8 76 [(0, .ref a0), (1, .int x1), (2, .long l2), (4, .int (if r13 ≤ x5 then x4 else x6 : Int32)), (5, .int (if r13 ≤ x5 then x5 else r13 : Int32)), (6, .int x6), (7, .int r13)] [] h12 rc rs n0 Q X := by
      refine g_iinc (v := (x6 + 1)) (lv' := [(0, .ref a0), (1, .int x1), (2, .long l2), (4, .int (if r13 ≤ x5 then x4 else x6 : Int32)), (5, .int (if r13 ≤ x5 then x5 else r13 : Int32)), (6, .int (x6 + 1)), (7, .int r13)]) dX7_look_76 5 rfl (by rfl) (by decide) rfl ?_
      refine g_goto (tgt := 34) dX7_look_79 (by decide) ?_
      exact Gm.sub [0, 1, 2, 3, 4, 5] rfl K
    refine g_icmp_le (tgt := 76) dX7_look_65 (by decide) (fun c14 => ?_) (fun c14 => ?_)
    · first | (simp only [if_pos c14] at KJ; exact KJ) | (simp only [if_pos c14, ite_true, ite_false, eq_self] at KJ; exact KJ) | (simp only [if_pos c14] at KJ ⊢; exact KJ) | exact KJ
    · refine g_iload dX7_look_68 5 rfl ?_
      refine g_istore (lv' := [(0, .ref a0), (1, .int x1), (2, .long l2), (4, .int x6), (5, .int x5), (6, .int x6), (7, .int r13)]) dX7_look_70 (by decide) rfl ?_
      refine g_iload dX7_look_72 6 rfl ?_
      refine g_istore (lv' := [(0, .ref a0), (1, .int x1), (2, .long l2), (4, .int x6), (5, .int r13), (6, .int x6), (7, .int r13)]) dX7_look_74 (by decide) rfl ?_
      first | (simp only [if_neg c14] at KJ; exact KJ) | (simp only [if_neg c14, ite_true, ite_false, eq_self] at KJ; exact KJ) | (simp only [if_neg c14] at KJ ⊢; exact KJ) | exact KJ
theorem dX7_years_0 : decode cX7_years 0 = .ok (.iload_n 3, 1) := by decide +kernel
theorem dX7_years_1 : decode cX7_years 1 = .ok (.ifCond .lt 8, 3) := by decide +kernel
theorem dX7_years_4 : decode cX7_years 4 = .ok (.iload_n 3, 1) := by decide +kernel
theorem dX7_years_5 : decode cX7_years 5 = .ok (.iconst 2, 1) := by decide +kernel
theorem dX7_years_6 : decode cX7_years 6 = .ok (.if_icmp .le 14, 3) := by decide +kernel
theorem dX7_years_9 : decode cX7_years 9 = .ok (.new 175, 3) := by decide +kernel
theorem dX7_years_12 : decode cX7_years 12 = .ok (.dup, 1) := by decide +kernel
theorem dX7_years_13 : decode cX7_years 13 = .ok (.ldc_w 384, 3) := by decide +kernel
theorem dX7_years_16 : decode cX7_years 16 = .ok (.invokespecial 179, 3) := by decide +kernel
theorem dX7_years_19 : decode cX7_years 19 = .ok (.athrow, 1) := by decide +kernel
theorem dX7_years_20 : decode cX7_years 20 = .ok (.iload_n 2, 1) := by decide +kernel
theorem dX7_years_21 : decode cX7_years 21 = .ok (.ifCond .lt 9, 3) := by decide +kernel
theorem dX7_years_24 : decode cX7_years 24 = .ok (.iload_n 2, 1) := by decide +kernel
theorem dX7_years_25 : decode cX7_years 25 = .ok (.bipush 20, 2) := by decide +kernel
theorem dX7_years_27 : decode cX7_years 27 = .ok (.if_icmp .le 14, 3) := by decide +kernel
theorem dX7_years_30 : decode cX7_years 30 = .ok (.new 55, 3) := by decide +kernel
theorem dX7_years_33 : decode cX7_years 33 = .ok (.dup, 1) := by decide +kernel
theorem dX7_years_34 : decode cX7_years 34 = .ok (.ldc_w 386, 3) := by decide +kernel
theorem dX7_years_37 : decode cX7_years 37 = .ok (.invokespecial 59, 3) := by decide +kernel
theorem dX7_years_40 : decode cX7_years 40 = .ok (.athrow, 1) := by decide +kernel
theorem dX7_years_41 : decode cX7_years 41 = .ok (.aload_n 0, 1) := by decide +kernel
theorem dX7_years_42 : decode cX7_years 42 = .ok (.getfield 37, 3) := by decide +kernel
theorem dX7_years_45 : decode cX7_years 45 = .ok (.getfield 81, 3) := by decide +kernel
theorem dX7_years_48 : decode cX7_years 48 = .ok (.astore 4, 2) := by decide +kernel
theorem dX7_years_50 : decode cX7_years 50 = .ok (.aload_n 0, 1) := by decide +kernel
theorem dX7_years_51 : decode cX7_years 51 = .ok (.getfield 23, 3) := by decide +kernel
theorem dX7_years_54 : decode cX7_years 54 = .ok (.aload 4, 2) := by decide +kernel
theorem dX7_years_56 : decode cX7_years 56 = .ok (.invokevirtual 180, 3) := by decide +kernel
theorem dX7_years_59 : decode cX7_years 59 = .ok (.aload_n 0, 1) := by decide +kernel
theorem dX7_years_60 : decode cX7_years 60 = .ok (.iload_n 1, 1) := by decide +kernel
theorem dX7_years_61 : decode cX7_years 61 = .ok (.iload_n 2, 1) := by decide +kernel
theorem dX7_years_62 : decode cX7_years 62 = .ok (.invokevirtual 388, 3) := by decide +kernel
theorem dX7_years_65 : decode cX7_years 65 = .ok (.iload_n 3, 1) := by decide +kernel
theorem dX7_years_66 : decode cX7_years 66 = .ok (.lookupswitch 48 #[(0, 26), (1, 34)], 26) := by decide +kernel
theorem dX7_years_92 : decode cX7_years 92 = .ok (.aload_n 0, 1) := by decide +kernel
theorem dX7_years_93 : decode cX7_years 93 = .ok (.getfield 23, 3) := by decide +kernel
theorem dX7_years_96 : decode cX7_years 96 = .ok (.getfield 114, 3) := by decide +kernel
theorem dX7_years_99 : decode cX7_years 99 = .ok (.ireturn, 1) := by decide +kernel
theorem dX7_years_100 : decode cX7_years 100 = .ok (.aload_n 0, 1) := by decide +kernel
theorem dX7_years_101 : decode cX7_years 101 = .ok (.getfield 23, 3) := by decide +kernel
theorem dX7_years_104 : decode cX7_years 104 = .ok (.invokevirtual 131, 3) := by decide +kernel
theorem dX7_years_107 : decode cX7_years 107 = .ok (.aload 4, 2) := by decide +kernel
theorem dX7_years_109 : decode cX7_years 109 = .ok (.invokevirtual 131, 3) := by decide +kernel
theorem dX7_years_112 : decode cX7_years 112 = .ok (.isub, 1) := by decide +kernel
theorem dX7_years_113 : decode cX7_years 113 = .ok (.ireturn, 1) := by decide +kernel
theorem dX7_years_114 : decode cX7_years 114 = .ok (.aload_n 0, 1) := by decide +kernel
theorem dX7_years_115 : decode cX7_years 115 = .ok (.getfield 23, 3) := by decide +kernel
theorem dX7_years_118 : decode cX7_years 118 = .ok (.invokevirtual 127, 3) := by decide +kernel
theorem dX7_years_121 : decode cX7_years 121 = .ok (.aload 4, 2) := by decide +kernel
theorem dX7_years_123 : decode cX7_years 123 = .ok (.invokevirtual 127, 3) := by decide +kernel
theorem dX7_years_126 : decode cX7_years 126 = .ok (.isub, 1) := by decide +kernel
theorem dX7_years_127 : decode cX7_years 127 = .ok (.ireturn, 1) := by decide +kernel
set_option maxRecDepth 20000 in
set_option maxHeartbeats 4000000 in
theorem vX7_years_0 {l : Launch} {x : CX} {a0 : Nat} {x1 : Int32} {x2 : Int32} {x3 : Int32} {h : PH} {rc rs n0 : Nat} {Q : Option Value → PH → Prop} {X : String → PH → Prop}
    (K : ((x3 < 0 → ThrowOk x RX7 "java/util/NoSuchElementException" "no such what of years" ["java/lang/RuntimeException", "java/lang/Exception"] 384 179 ∧ 1 ≤ rc ∧ 6 ≤ rs ∧ X "java/util/NoSuchElementException" h) ∧ (¬ x3 < 0 → ((x3 ≤ 2 → ((x2 < 0 → ThrowOk x RX7 "java/lang/IllegalArgumentException" "not so many years" ["java/lang/RuntimeException", "java/lang/Exception"] 386 59 ∧ 1 ≤ rc ∧ 6 ≤ rs ∧ X "java/lang/IllegalArgumentException" h) ∧ (¬ x2 < 0 → ((x2 ≤ 20 → ((hK h a0).1 = 7) ∧ ∃ b8, (hR h a0 4 = some b8) ∧ ((hK h b8).1 = 3) ∧ ∃ b11, (hR h b8 0 = some b11) ∧ ∃ b13, (hR h a0 2 = some b13) ∧ ((hK h b13).1 = 1) ∧ ∃ (q15 : PH → Prop), CV l x mX1_copyFrom 1 0 0 [.ref b13, .ref b11] h q15 ∧ ∀ (h18 : PH), q15 h18 → ((hK h18 a0).1 = 7) ∧ ∃ (q19 : PH → Prop), CV l x mX7_playYears 5 0 0 [.ref a0, .int x1, .int x2] h18 q19 ∧ ∀ (h22 : PH), q19 h22 → ((x3.toInt = 0 → ((hK h22 a0).1 = 7) ∧ ∃ b24, (hR h22 a0 2 = some b24) ∧ ((hK h22 b24).1 = 1) ∧ Q (some (.int (hI h22 b24 12))) h22) ∧ (x3.toInt = 1 → ((hK h22 a0).1 = 7) ∧ ∃ b29, (hR h22 a0 2 = some b29) ∧ ((hK h22 b29).1 = 1) ∧ ∃ (q31 : Int32 → PH → Prop), CI l x mX1_waitedInAll 0 0 0 [.ref b29] h22 q31 ∧ ∀ (r35 : Int32) (h34 : PH), q31 r35 h34 → ((hK h34 b11).1 = 1) ∧ ∃ (q36 : Int32 → PH → Prop), CI l x mX1_waitedInAll 0 0 0 [.ref b11] h34 q36 ∧ ∀ (r40 : Int32) (h39 : PH), q36 r40 h39 → Q (some (.int (r35 - r40))) h39) ∧ ((¬ x3.toInt = 0 ∧ ¬ x3.toInt = 1) → ((hK h22 a0).1 = 7) ∧ ∃ b43, (hR h22 a0 2 = some b43) ∧ ((hK h22 b43).1 = 1) ∧ ∃ (q45 : Int32 → PH → Prop), CI l x mX1_passedInAll 0 0 0 [.ref b43] h22 q45 ∧ ∀ (r49 : Int32) (h48 : PH), q45 r49 h48 → ((hK h48 b11).1 = 1) ∧ ∃ (q50 : Int32 → PH → Prop), CI l x mX1_passedInAll 0 0 0 [.ref b11] h48 q50 ∧ ∀ (r54 : Int32) (h53 : PH), q50 r54 h53 → Q (some (.int (r49 - r54))) h53))) ∧ (¬ x2 ≤ 20 → ThrowOk x RX7 "java/lang/IllegalArgumentException" "not so many years" ["java/lang/RuntimeException", "java/lang/Exception"] 386 59 ∧ 1 ≤ rc ∧ 6 ≤ rs ∧ X "java/lang/IllegalArgumentException" h))))) ∧ (¬ x3 ≤ 2 → ThrowOk x RX7 "java/util/NoSuchElementException" "no such what of years" ["java/lang/RuntimeException", "java/lang/Exception"] 384 179 ∧ 1 ≤ rc ∧ 6 ≤ rs ∧ X "java/util/NoSuchElementException" h))))) :
    Gm l x mX7_years 8 0 [(0, .ref a0), (1, .int x1), (2, .int x2), (3, .int x3)] [] h rc rs n0 Q X := by
  refine g_iload_n dX7_years_0 rfl 3 rfl ?_
  refine g_if_lt (tgt := 9) dX7_years_1 (by decide) (fun c1 => ?_) (fun c1 => ?_)
  · replace K := K.1 c1
    exact g_throwW (cls := "java/util/NoSuchElementException") (text := "no such what of years") (names := ["java/lang/RuntimeException", "java/lang/Exception"]) (by decide) (by decide) bw_977 bw_22 K.1.1 K.1.2 dX7_years_9 dX7_years_12 dX7_years_13 dX7_years_16 dX7_years_19 (by decide) (Nat.le_of_ble_eq_true rfl) K.2.1 K.2.2.1 K.2.2.2
  · replace K := K.2 c1
    refine g_iload_n dX7_years_4 rfl 3 rfl ?_
    refine g_iconst (v := 2) dX7_years_5 (by decide) ?_
    refine g_icmp_le (tgt := 20) dX7_years_6 (by decide) (fun c3 => ?_) (fun c3 => ?_)
    · replace K := K.1 c3
      refine g_iload_n dX7_years_20 rfl 2 rfl ?_
      refine g_if_lt (tgt := 30) dX7_years_21 (by decide) (fun c4 => ?_) (fun c4 => ?_)
      · replace K := K.1 c4
        exact g_throwW (cls := "java/lang/IllegalArgumentException") (text := "not so many years") (names := ["java/lang/RuntimeException", "java/lang/Exception"]) (by decide) (by decide) bw_689 bw_13 K.1.1 K.1.2 dX7_years_30 dX7_years_33 dX7_years_34 dX7_years_37 dX7_years_40 (by decide) (Nat.le_of_ble_eq_true rfl) K.2.1 K.2.2.1 K.2.2.2
      · replace K := K.2 c4
        refine g_iload_n dX7_years_24 rfl 2 rfl ?_
        refine g_bipush (v := 20) dX7_years_25 (by decide) ?_
        refine g_icmp_le (tgt := 41) dX7_years_27 (by decide) (fun c6 => ?_) (fun c6 => ?_)
        · replace K := K.1 c6
          refine g_aload_n dX7_years_41 rfl 0 rfl ?_
          obtain ⟨e7, b8, e9, K⟩ := K
          refine g_get (c := 7) (k := 4) (v := .ref b8) dX7_years_42 fc_7 (by decide) (by decide) bw_406 (congrArg pr e9) e7 ?_
          obtain ⟨e10, b11, e12, K⟩ := K
          refine g_get (c := 3) (k := 0) (v := .ref b11) dX7_years_45 fc_3 (by decide) (by decide) bw_378 (congrArg pr e12) e10 ?_
          refine g_astore (lv' := [(0, .ref a0), (1, .int x1), (2, .int x2), (3, .int x3), (4, .ref b11)]) dX7_years_48 (by decide) rfl ?_
          refine g_aload_n dX7_years_50 rfl 0 rfl ?_
          obtain ⟨b13, e14, K⟩ := K
          refine g_get (c := 7) (k := 2) (v := .ref b13) dX7_years_51 fc_7 (by decide) (by decide) bw_404 (congrArg pr e14) e7 ?_
          refine g_aload dX7_years_54 4 rfl ?_
          obtain ⟨e17, K⟩ := K
          obtain ⟨q15, C16, K⟩ := K
          refine g_callV (M' := mX1_copyFrom) (b := b13) (As := [.ref b11]) (rest := []) (rc' := rc) (rs' := rs) dX7_years_56 bw_975 bw_454 bw_455 bw_3 bw_456 ⟨by decide +kernel, by decide +kernel, show (parseMethodDescriptor mX1_copyFrom.1.desc).map (fun d => d.parameters.length) = some 1 by decide +kernel⟩ (by decide) (by decide) (Nat.le_of_ble_eq_true rfl) fc_1 (by decide) rfl e17 C16 (Nat.le_of_eq (Nat.add_zero _)) (Nat.le_of_eq (Nat.add_zero _)) (fun _ _ h => h) ?_
          rintro _ h18 ⟨rfl, K1⟩ -
          replace K := K h18 K1
          show Gm l x mX7_years 8 59 [(0, .ref a0), (1, .int x1), (2, .int x2), (3, .int x3), (4, .ref b11)] [] h18 rc rs n0 Q X
          refine g_aload_n dX7_years_59 rfl 0 rfl ?_
          refine g_iload_n dX7_years_60 rfl 1 rfl ?_
          refine g_iload_n dX7_years_61 rfl 2 rfl ?_
          obtain ⟨e21, K⟩ := K
          obtain ⟨q19, C20, K⟩ := K
          refine g_callV (M' := mX7_playYears) (b := a0) (As := [.int x1, .int x2]) (rest := []) (rc' := rc) (rs' := rs) dX7_years_62 bw_1153 bw_1155 bs_34 bw_1 bw_1156 ⟨by decide +kernel, by decide +kernel, show (parseMethodDescriptor mX7_playYears.1.desc).map (fun d => d.parameters.length) = some 2 by decide +kernel⟩ (by decide) (by decide) (Nat.le_of_ble_eq_true rfl) fc_7 (by decide) rfl e21 C20 (Nat.le_of_eq (Nat.add_zero _)) (Nat.le_of_eq (Nat.add_zero _)) (fun _ _ h => h) ?_
          rintro _ h22 ⟨rfl, K1⟩ -
          replace K := K h22 K1
          show Gm l x mX7_years 8 65 [(0, .ref a0), (1, .int x1), (2, .int x2), (3, .int x3), (4, .ref b11)] [] h22 rc rs n0 Q X
          refine g_iload_n dX7_years_65 rfl 3 rfl ?_
          by_cases e27 : x3.toInt = 0
          · replace K := K.1 e27
            refine g_lookup (off := 26) (tgt := 92) dX7_years_66 (by decide) (by rw [e27]; decide) (by decide) ?_
            refine g_aload_n dX7_years_92 rfl 0 rfl ?_
            obtain ⟨e23, b24, e25, K⟩ := K
            refine g_get (c := 7) (k := 2) (v := .ref b24) dX7_years_93 fc_7 (by decide) (by decide) bw_404 (congrArg pr e25) e23 ?_
            obtain ⟨e26, K⟩ := K
            refine g_get (c := 1) (k := 12) (v := .int (hI h22 b24 12)) dX7_years_96 fc_1 (by decide) (by decide) bw_222 rfl e26 ?_
            exact g_iret dX7_years_99 rfl K
          · skip
            by_cases e41 : x3.toInt = 1
            · replace K := K.2.1 e41
              refine g_lookup (off := 34) (tgt := 100) dX7_years_66 (by decide) (by rw [e41]; decide) (by decide) ?_
              refine g_aload_n dX7_years_100 rfl 0 rfl ?_
              obtain ⟨e28, b29, e30, K⟩ := K
              refine g_get (c := 7) (k := 2) (v := .ref b29) dX7_years_101 fc_7 (by decide) (by decide) bw_404 (congrArg pr e30) e28 ?_
              obtain ⟨e33, K⟩ := K
              obtain ⟨q31, C32, K⟩ := K
              refine g_callV (M' := mX1_waitedInAll) (b := b29) (As := []) (rest := []) (rc' := rc) (rs' := rs) dX7_years_104 bw_917 bw_918 bw_919 bw_3 bw_920 ⟨by decide +kernel, by decide +kernel, show (parseMethodDescriptor mX1_waitedInAll.1.desc).map (fun d => d.parameters.length) = some 0 by decide +kernel⟩ (by decide) (by decide) (Nat.le_of_ble_eq_true rfl) fc_1 (by decide) rfl e33 C32 (Nat.le_of_eq (Nat.add_zero _)) (Nat.le_of_eq (Nat.add_zero _)) (fun _ _ h => h) ?_
              rintro _ h34 ⟨r35, rfl, K1⟩ -
              replace K := K r35 h34 K1
              show Gm l x mX7_years 8 107 [(0, .ref a0), (1, .int x1), (2, .int x2), (3, .int x3), (4, .ref b11)] [.int r35] h34 rc rs n0 Q X
              refine g_aload dX7_years_107 4 rfl ?_
              obtain ⟨e38, K⟩ := K
              obtain ⟨q36, C37, K⟩ := K
              refine g_callV (M' := mX1_waitedInAll) (b := b11) (As := []) (rest := [.int r35]) (rc' := rc) (rs' := rs) dX7_years_109 bw_917 bw_918 bw_919 bw_3 bw_920 ⟨by decide +kernel, by decide +kernel, show (parseMethodDescriptor mX1_waitedInAll.1.desc).map (fun d => d.parameters.length) = some 0 by decide +kernel⟩ (by decide) (by decide) (Nat.le_of_ble_eq_true rfl) fc_1 (by decide) rfl e38 C37 (Nat.le_of_eq (Nat.add_zero _)) (Nat.le_of_eq (Nat.add_zero _)) (fun _ _ h => h) ?_
              rintro _ h39 ⟨r40, rfl, K1⟩ -
              replace K := K r40 h39 K1
              show Gm l x mX7_years 8 112 [(0, .ref a0), (1, .int x1), (2, .int x2), (3, .int x3), (4, .ref b11)] [.int r40, .int r35] h39 rc rs n0 Q X
              refine g_isub dX7_years_112 ?_
              exact g_iret dX7_years_113 rfl K
            · skip
              replace K := K.2.2 ⟨e27, e41⟩
              refine g_lookup (off := 48) (tgt := 114) dX7_years_66 (by decide) (by simp [Op.lookupswitch.offset, show ¬ (0 : Int) = x3.toInt from fun q => e27 q.symm, show ¬ (1 : Int) = x3.toInt from fun q => e41 q.symm]) (by decide) ?_
              refine g_aload_n dX7_years_114 rfl 0 rfl ?_
              obtain ⟨e42, b43, e44, K⟩ := K
              refine g_get (c := 7) (k := 2) (v := .ref b43) dX7_years_115 fc_7 (by decide) (by decide) bw_404 (congrArg pr e44) e42 ?_
              obtain ⟨e47, K⟩ := K
              obtain ⟨q45, C46, K⟩ := K
              refine g_callV (M' := mX1_passedInAll) (b := b43) (As := []) (rest := []) (rc' := rc) (rs' := rs) dX7_years_118 bw_913 bw_914 bw_915 bw_3 bw_916 ⟨by decide +kernel, by decide +kernel, show (parseMethodDescriptor mX1_passedInAll.1.desc).map (fun d => d.parameters.length) = some 0 by decide +kernel⟩ (by decide) (by decide) (Nat.le_of_ble_eq_true rfl) fc_1 (by decide) rfl e47 C46 (Nat.le_of_eq (Nat.add_zero _)) (Nat.le_of_eq (Nat.add_zero _)) (fun _ _ h => h) ?_
              rintro _ h48 ⟨r49, rfl, K1⟩ -
              replace K := K r49 h48 K1
              show Gm l x mX7_years 8 121 [(0, .ref a0), (1, .int x1), (2, .int x2), (3, .int x3), (4, .ref b11)] [.int r49] h48 rc rs n0 Q X
              refine g_aload dX7_years_121 4 rfl ?_
              obtain ⟨e52, K⟩ := K
              obtain ⟨q50, C51, K⟩ := K
              refine g_callV (M' := mX1_passedInAll) (b := b11) (As := []) (rest := [.int r49]) (rc' := rc) (rs' := rs) dX7_years_123 bw_913 bw_914 bw_915 bw_3 bw_916 ⟨by decide +kernel, by decide +kernel, show (parseMethodDescriptor mX1_passedInAll.1.desc).map (fun d => d.parameters.length) = some 0 by decide +kernel⟩ (by decide) (by decide) (Nat.le_of_ble_eq_true rfl) fc_1 (by decide) rfl e52 C51 (Nat.le_of_eq (Nat.add_zero _)) (Nat.le_of_eq (Nat.add_zero _)) (fun _ _ h => h) ?_
              rintro _ h53 ⟨r54, rfl, K1⟩ -
              replace K := K r54 h53 K1
              show Gm l x mX7_years 8 126 [(0, .ref a0), (1, .int x1), (2, .int x2), (3, .int x3), (4, .ref b11)] [.int r54, .int r49] h53 rc rs n0 Q X
              refine g_isub dX7_years_126 ?_
              exact g_iret dX7_years_127 rfl K
        · replace K := K.2 c6
          exact g_throwW (cls := "java/lang/IllegalArgumentException") (text := "not so many years") (names := ["java/lang/RuntimeException", "java/lang/Exception"]) (by decide) (by decide) bw_689 bw_13 K.1.1 K.1.2 dX7_years_30 dX7_years_33 dX7_years_34 dX7_years_37 dX7_years_40 (by decide) (Nat.le_of_ble_eq_true rfl) K.2.1 K.2.2.1 K.2.2.2
    · replace K := K.2 c3
      exact g_throwW (cls := "java/util/NoSuchElementException") (text := "no such what of years") (names := ["java/lang/RuntimeException", "java/lang/Exception"]) (by decide) (by decide) bw_977 bw_22 K.1.1 K.1.2 dX7_years_9 dX7_years_12 dX7_years_13 dX7_years_16 dX7_years_19 (by decide) (Nat.le_of_ble_eq_true rfl) K.2.1 K.2.2.1 K.2.2.2
theorem dX7_group_0 : decode cX7_group 0 = .ok (.iload_n 1, 1) := by decide +kernel
theorem dX7_group_1 : decode cX7_group 1 = .ok (.ifCond .lt 14, 3) := by decide +kernel
theorem dX7_group_4 : decode cX7_group 4 = .ok (.iload_n 1, 1) := by decide +kernel
theorem dX7_group_5 : decode cX7_group 5 = .ok (.aload_n 0, 1) := by decide +kernel
theorem dX7_group_6 : decode cX7_group 6 = .ok (.getfield 10, 3) := by decide +kernel
theorem dX7_group_9 : decode cX7_group 9 = .ok (.getfield 48, 3) := by decide +kernel
theorem dX7_group_12 : decode cX7_group 12 = .ok (.if_icmp .le 13, 3) := by decide +kernel
theorem dX7_group_15 : decode cX7_group 15 = .ok (.new 55, 3) := by decide +kernel
theorem dX7_group_18 : decode cX7_group 18 = .ok (.dup, 1) := by decide +kernel
theorem dX7_group_19 : decode cX7_group 19 = .ok (.ldc 57, 2) := by decide +kernel
theorem dX7_group_21 : decode cX7_group 21 = .ok (.invokespecial 59, 3) := by decide +kernel
theorem dX7_group_24 : decode cX7_group 24 = .ok (.athrow, 1) := by decide +kernel
theorem dX7_group_25 : decode cX7_group 25 = .ok (.aload_n 0, 1) := by decide +kernel
theorem dX7_group_26 : decode cX7_group 26 = .ok (.getfield 10, 3) := by decide +kernel
theorem dX7_group_29 : decode cX7_group 29 = .ok (.iload_n 1, 1) := by decide +kernel
theorem dX7_group_30 : decode cX7_group 30 = .ok (.invokevirtual 62, 3) := by decide +kernel
theorem dX7_group_33 : decode cX7_group 33 = .ok (.istore_n 2, 1) := by decide +kernel
theorem dX7_group_34 : decode cX7_group 34 = .ok (.aload_n 0, 1) := by decide +kernel
theorem dX7_group_35 : decode cX7_group 35 = .ok (.aload_n 0, 1) := by decide +kernel
theorem dX7_group_36 : decode cX7_group 36 = .ok (.getfield 10, 3) := by decide +kernel
theorem dX7_group_39 : decode cX7_group 39 = .ok (.getfield 66, 3) := by decide +kernel
theorem dX7_group_42 : decode cX7_group 42 = .ok (.putfield 16, 3) := by decide +kernel
theorem dX7_group_45 : decode cX7_group 45 = .ok (.iload_n 2, 1) := by decide +kernel
theorem dX7_group_46 : decode cX7_group 46 = .ok (.ifCond .eq 18, 3) := by decide +kernel
theorem dX7_group_49 : decode cX7_group 49 = .ok (.aload_n 0, 1) := by decide +kernel
theorem dX7_group_50 : decode cX7_group 50 = .ok (.getfield 37, 3) := by decide +kernel
theorem dX7_group_53 : decode cX7_group 53 = .ok (.getfield 69, 3) := by decide +kernel
theorem dX7_group_56 : decode cX7_group 56 = .ok (.iconst 0, 1) := by decide +kernel
theorem dX7_group_57 : decode cX7_group 57 = .ok (.dup2, 1) := by decide +kernel
theorem dX7_group_58 : decode cX7_group 58 = .ok (.iaload, 1) := by decide +kernel
theorem dX7_group_59 : decode cX7_group 59 = .ok (.iconst 1, 1) := by decide +kernel
theorem dX7_group_60 : decode cX7_group 60 = .ok (.iadd, 1) := by decide +kernel
theorem dX7_group_61 : decode cX7_group 61 = .ok (.iastore, 1) := by decide +kernel
theorem dX7_group_62 : decode cX7_group 62 = .ok (.iload_n 2, 1) := by decide +kernel
theorem dX7_group_63 : decode cX7_group 63 = .ok (.ireturn, 1) := by decide +kernel
theorem dX7_group_64 : decode cX7_group 64 = .ok (.aload_n 0, 1) := by decide +kernel
theorem dX7_group_65 : decode cX7_group 65 = .ok (.getfield 30, 3) := by decide +kernel
theorem dX7_group_68 : decode cX7_group 68 = .ok (.aload_n 0, 1) := by decide +kernel
theorem dX7_group_69 : decode cX7_group 69 = .ok (.getfield 10, 3) := by decide +kernel
theorem dX7_group_72 : decode cX7_group 72 = .ok (.getfield 73, 3) := by decide +kernel
theorem dX7_group_75 : decode cX7_group 75 = .ok (.invokevirtual 76, 3) := by decide +kernel
theorem dX7_group_78 : decode cX7_group 78 = .ok (.aload_n 0, 1) := by decide +kernel
theorem dX7_group_79 : decode cX7_group 79 = .ok (.getfield 37, 3) := by decide +kernel
theorem dX7_group_82 : decode cX7_group 82 = .ok (.aload_n 0, 1) := by decide +kernel
theorem dX7_group_83 : decode cX7_group 83 = .ok (.getfield 10, 3) := by decide +kernel
theorem dX7_group_86 : decode cX7_group 86 = .ok (.getfield 73, 3) := by decide +kernel
theorem dX7_group_89 : decode cX7_group 89 = .ok (.invokevirtual 80, 3) := by decide +kernel
theorem dX7_group_92 : decode cX7_group 92 = .ok (.aload_n 0, 1) := by decide +kernel
theorem dX7_group_93 : decode cX7_group 93 = .ok (.iconst 0, 1) := by decide +kernel
theorem dX7_group_94 : decode cX7_group 94 = .ok (.putfield 44, 3) := by decide +kernel
theorem dX7_group_97 : decode cX7_group 97 = .ok (.iconst 0, 1) := by decide +kernel
theorem dX7_group_98 : decode cX7_group 98 = .ok (.ireturn, 1) := by decide +kernel
set_option maxRecDepth 20000 in
set_option maxHeartbeats 4000000 in
theorem vX7_group_0 {l : Launch} {x : CX} {a0 : Nat} {x1 : Int32} {h : PH} {rc rs n0 : Nat} {Q : Option Value → PH → Prop} {X : String → PH → Prop}
    (K : ((x1 < 0 → ThrowOk x RX7 "java/lang/IllegalArgumentException" "the tape has not so many bytes" ["java/lang/RuntimeException", "java/lang/Exception"] 57 59 ∧ 1 ≤ rc ∧ 6 ≤ rs ∧ X "java/lang/IllegalArgumentException" h) ∧ (¬ x1 < 0 → ((hK h a0).1 = 7) ∧ ∃ b4, (hR h a0 0 = some b4) ∧ ((hK h b4).1 = 4) ∧ ((x1 ≤ (hI h b4 1) → ∃ (q8 : Int32 → PH → Prop), CI l x mX4_read 9 0 0 [.ref b4, .int x1] h q8 ∧ ∀ (r11 : Int32) (h10 : PH), q8 r11 h10 → ((hK h10 a0).1 = 7) ∧ ∃ b13, (hR h10 a0 0 = some b13) ∧ ((hK h10 b13).1 = 4) ∧ ((r11 = 0 → ∃ b17, (hR h10 a0 3 = some b17) ∧ ∃ b19, (hR h10 b13 2 = some b19) ∧ ((hK h10 b17).1 = 5) ∧ ∃ (q21 : PH → Prop), CV l x mX5_begin 2 0 0 [.ref b17, .ref b19] (sI h10 a0 1 (hI h10 b13 11)) q21 ∧ ∀ (h24 : PH), q21 h24 → ((hK h24 a0).1 = 7) ∧ ∃ b26, (hR h24 a0 4 = some b26) ∧ ∃ b28, (hR h24 a0 0 = some b28) ∧ ((hK h24 b28).1 = 4) ∧ ∃ b31, (hR h24 b28 2 = some b31) ∧ ((hK h24 b26).1 = 3) ∧ ∃ (q33 : PH → Prop), CV l x mX3_begin 2 0 0 [.ref b26, .ref b31] h24 q33 ∧ ∀ (h36 : PH), q33 h36 → ((hK h36 a0).1 = 7) ∧ Q (some (.int 0)) (sI h36 a0 6 0)) ∧ (¬ r11 = 0 → ∃ b38, (hR h10 a0 4 = some b38) ∧ ((hK h10 b38).1 = 3) ∧ ∃ b41, (hR h10 b38 5 = some b41) ∧ ((hK h10 b41).1 = 100) ∧ (vp_in 0 (hK h10 b41).2) ∧ (vp_in 0 (hK h10 b41).2) ∧ Q (some (.int r11)) (sI (sI h10 a0 1 (hI h10 b13 11)) b41 (Int32.toNatClampNeg 0) ((hI (sI h10 a0 1 (hI h10 b13 11)) b41 (Int32.toNatClampNeg 0)) + 1))))) ∧ (¬ x1 ≤ (hI h b4 1) → ThrowOk x RX7 "java/lang/IllegalArgumentException" "the tape has not so many bytes" ["java/lang/RuntimeException", "java/lang/Exception"] 57 59 ∧ 1 ≤ rc ∧ 6 ≤ rs ∧ X "java/lang/IllegalArgumentException" h))))) :
    Gm l x mX7_group 10 0 [(0, .ref a0), (1, .int x1)] [] h rc rs n0 Q X := by
  refine g_iload_n dX7_group_0 rfl 1 rfl ?_
  refine g_if_lt (tgt := 15) dX7_group_1 (by decide) (fun c1 => ?_) (fun c1 => ?_)
  · replace K := K.1 c1
    exact g_throw (cls := "java/lang/IllegalArgumentException") (text := "the tape has not so many bytes") (names := ["java/lang/RuntimeException", "java/lang/Exception"]) (by decide) (by decide) bw_689 bw_13 K.1.1 K.1.2 dX7_group_15 dX7_group_18 dX7_group_19 dX7_group_21 dX7_group_24 (by decide) (Nat.le_of_ble_eq_true rfl) K.2.1 K.2.2.1 K.2.2.2
  · replace K := K.2 c1
    refine g_iload_n dX7_group_4 rfl 1 rfl ?_
    refine g_aload_n dX7_group_5 rfl 0 rfl ?_
    obtain ⟨e3, b4, e5, K⟩ := K
    refine g_get (c := 7) (k := 0) (v := .ref b4) dX7_group_6 fc_7 (by decide) (by decide) bw_402 (congrArg pr e5) e3 ?_
    obtain ⟨e6, K⟩ := K
    refine g_get (c := 4) (k := 1) (v := .int (hI h b4 1)) dX7_group_9 fc_4 (by decide) (by decide) bw_266 rfl e6 ?_
    refine g_icmp_le (tgt := 25) dX7_group_12 (by decide) (fun c7 => ?_) (fun c7 => ?_)
    · replace K := K.1 c7
      refine g_aload_n dX7_group_25 rfl 0 rfl ?_
      refine g_get (c := 7) (k := 0) (v := .ref b4) dX7_group_26 fc_7 (by decide) (by decide) bw_402 (congrArg pr e5) e3 ?_
      refine g_iload_n dX7_group_29 rfl 1 rfl ?_
      obtain ⟨q8, C9, K⟩ := K
      refine g_callV (M' := mX4_read) (b := b4) (As := [.int x1]) (rest := []) (rc' := rc) (rs' := rs) dX7_group_30 bw_756 bw_757 bw_758 bw_2 bw_759 ⟨by decide +kernel, by decide +kernel, show (parseMethodDescriptor mX4_read.1.desc).map (fun d => d.parameters.length) = some 1 by decide +kernel⟩ (by decide) (by decide) (Nat.le_of_ble_eq_true rfl) fc_4 (by decide) rfl e6 C9 (Nat.le_of_eq (Nat.add_zero _)) (Nat.le_of_eq (Nat.add_zero _)) (fun _ _ h => h) ?_
      rintro _ h10 ⟨r11, rfl, K1⟩ -
      replace K := K r11 h10 K1
      show Gm l x mX7_group 10 33 [(0, .ref a0), (1, .int x1)] [.int r11] h10 rc rs n0 Q X
      refine g_istore_n (lv' := [(0, .ref a0), (1, .int x1), (2, .int r11)]) dX7_group_33 rfl (by decide) rfl ?_
      refine g_aload_n dX7_group_34 rfl 0 rfl ?_
      refine g_aload_n dX7_group_35 rfl 0 rfl ?_
      obtain ⟨e12, b13, e14, K⟩ := K
      refine g_get (c := 7) (k := 0) (v := .ref b13) dX7_group_36 fc_7 (by decide) (by decide) bw_402 (congrArg pr e14) e12 ?_
      obtain ⟨e15, K⟩ := K
      refine g_get (c := 4) (k := 11) (v := .int (hI h10 b13 11)) dX7_group_39 fc_4 (by decide) (by decide) bw_278 rfl e15 ?_
      refine g_puti (c := 7) (k := 1) dX7_group_42 fc_7 (by decide) (by decide) bw_403 (Or.inl rfl) rfl e12 ?_
      refine g_iload_n dX7_group_45 rfl 2 rfl ?_
      refine g_if_eq (tgt := 64) dX7_group_46 (by decide) (fun c16 => ?_) (fun c16 => ?_)
      · replace K := K.1 c16
        refine g_aload_n dX7_group_64 rfl 0 rfl ?_
        obtain ⟨b17, e18, K⟩ := K
        refine g_get (c := 7) (k := 3) (v := .ref b17) dX7_group_65 fc_7 (by decide) (by decide) bw_405 (congrArg pr (krI e18)) (kkI e12) ?_
        refine g_aload_n dX7_group_68 rfl 0 rfl ?_
        refine g_get (c := 7) (k := 0) (v := .ref b13) dX7_group_69 fc_7 (by decide) (by decide) bw_402 (congrArg pr (krI e14)) (kkI e12) ?_
        obtain ⟨b19, e20, K⟩ := K
        refine g_get (c := 4) (k := 2) (v := .ref b19) dX7_group_72 fc_4 (by decide) (by decide) bw_268 (congrArg pr (krI e20)) (kkI e15) ?_
        obtain ⟨e23, K⟩ := K
        obtain ⟨q21, C22, K⟩ := K
        refine g_callV (M' := mX5_begin) (b := b17) (As := [.ref b19]) (rest := []) (rc' := rc) (rs' := rs) dX7_group_75 bw_881 bw_882 bw_883 bw_6 bw_884 ⟨by decide +kernel, by decide +kernel, show (parseMethodDescriptor mX5_begin.1.desc).map (fun d => d.parameters.length) = some 1 by decide +kernel⟩ (by decide) (by decide) (Nat.le_of_ble_eq_true rfl) fc_5 (by decide) rfl (kkI e23) C22 (Nat.le_of_eq (Nat.add_zero _)) (Nat.le_of_eq (Nat.add_zero _)) (fun _ _ h => h) ?_
        rintro _ h24 ⟨rfl, K1⟩ -
        replace K := K h24 K1
        show Gm l x mX7_group 10 78 [(0, .ref a0), (1, .int x1), (2, .int r11)] [] h24 rc rs n0 Q X
        refine g_aload_n dX7_group_78 rfl 0 rfl ?_
        obtain ⟨e25, b26, e27, K⟩ := K
        refine g_get (c := 7) (k := 4) (v := .ref b26) dX7_group_79 fc_7 (by decide) (by decide) bw_406 (congrArg pr e27) e25 ?_
        refine g_aload_n dX7_group_82 rfl 0 rfl ?_
        obtain ⟨b28, e29, K⟩ := K
        refine g_get (c := 7) (k := 0) (v := .ref b28) dX7_group_83 fc_7 (by decide) (by decide) bw_402 (congrArg pr e29) e25 ?_
        obtain ⟨e30, b31, e32, K⟩ := K
        refine g_get (c := 4) (k := 2) (v := .ref b31) dX7_group_86 fc_4 (by decide) (by decide) bw_268 (congrArg pr e32) e30 ?_
        obtain ⟨e35, K⟩ := K
        obtain ⟨q33, C34, K⟩ := K
        refine g_callV (M' := mX3_begin) (b := b26) (As := [.ref b31]) (rest := []) (rc' := rc) (rs' := rs) dX7_group_89 bw_886 bw_887 bw_888 bw_7 bw_889 ⟨by decide +kernel, by decide +kernel, show (parseMethodDescriptor mX3_begin.1.desc).map (fun d => d.parameters.length) = some 1 by decide +kernel⟩ (by decide) (by decide) (Nat.le_of_ble_eq_true rfl) fc_3 (by decide) rfl e35 C34 (Nat.le_of_eq (Nat.add_zero _)) (Nat.le_of_eq (Nat.add_zero _)) (fun _ _ h => h) ?_
        rintro _ h36 ⟨rfl, K1⟩ -
        replace K := K h36 K1
        show Gm l x mX7_group 10 92 [(0, .ref a0), (1, .int x1), (2, .int r11)] [] h36 rc rs n0 Q X
        refine g_aload_n dX7_group_92 rfl 0 rfl ?_
        refine g_iconst (v := 0) dX7_group_93 (by decide) ?_
        obtain ⟨e37, K⟩ := K
        refine g_putz (c := 7) (k := 6) dX7_group_94 fc_7 (by decide) (by decide) bw_408 (Or.inl rfl) rfl (by decide) e37 ?_
        refine g_iconst (v := 0) dX7_group_97 (by decide) ?_
        exact g_iret dX7_group_98 rfl K
      · replace K := K.2 c16
        refine g_aload_n dX7_group_49 rfl 0 rfl ?_
        obtain ⟨b38, e39, K⟩ := K
        refine g_get (c := 7) (k := 4) (v := .ref b38) dX7_group_50 fc_7 (by decide) (by decide) bw_406 (congrArg pr (krI e39)) (kkI e12) ?_
        obtain ⟨e40, b41, e42, K⟩ := K
        refine g_get (c := 3) (k := 5) (v := .ref b41) dX7_group_53 fc_3 (by decide) (by decide) bw_388 (congrArg pr (krI e42)) (kkI e40) ?_
        refine g_iconst (v := 0) dX7_group_56 (by decide) ?_
        refine g_dup2 dX7_group_57 rfl rfl ?_
        obtain ⟨e43, e44, K⟩ := K
        refine g_iald dX7_group_58 (kkI e43) (kvI e44) ?_
        refine g_iconst (v := 1) dX7_group_59 (by decide) ?_
        refine g_iadd dX7_group_60 ?_
        obtain ⟨e45, K⟩ := K
        refine g_iast dX7_group_61 (kkI e43) (kvI e45) ?_
        refine g_iload_n dX7_group_62 rfl 2 rfl ?_
        exact g_iret dX7_group_63 rfl K
    · replace K := K.2 c7
      exact g_throw (cls := "java/lang/IllegalArgumentException") (text := "the tape has not so many bytes") (names := ["java/lang/RuntimeException", "java/lang/Exception"]) (by decide) (by decide) bw_689 bw_13 K.1.1 K.1.2 dX7_group_15 dX7_group_18 dX7_group_19 dX7_group_21 dX7_group_24 (by decide) (Nat.le_of_ble_eq_true rfl) K.2.1 K.2.2.1 K.2.2.2
