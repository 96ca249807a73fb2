/-! STEPS, printed by program: Small -/
theorem dX0_clear_0 : decode cX0_clear 0 = .ok (.aload_n 0, 1) := by decide +kernel
theorem dX0_clear_1 : decode cX0_clear 1 = .ok (.iconst 0, 1) := by decide +kernel
theorem dX0_clear_2 : decode cX0_clear 2 = .ok (.putfield 17, 3) := by decide +kernel
theorem dX0_clear_5 : decode cX0_clear 5 = .ok (.aload_n 0, 1) := by decide +kernel
theorem dX0_clear_6 : decode cX0_clear 6 = .ok (.iconst 0, 1) := by decide +kernel
theorem dX0_clear_7 : decode cX0_clear 7 = .ok (.putfield 21, 3) := by decide +kernel
theorem dX0_clear_10 : decode cX0_clear 10 = .ok (.return_, 1) := by decide +kernel
set_option maxRecDepth 20000 in
set_option maxHeartbeats 4000000 in
theorem vX0_clear_0 {l : Launch} {x : CX} {a0 : Nat} {h : PH} {rc rs n0 : Nat} {Q : Option Value → PH → Prop} {X : String → PH → Prop}
    (K : ((hK h a0).1 = 0) ∧ Q none (sI (sI h a0 1 0) a0 2 0)) :
    Gm l x mX0_clear 0 0 [(0, .ref a0)] [] h rc rs n0 Q X := by
  refine g_aload_n dX0_clear_0 rfl 0 rfl ?_
  refine g_iconst (v := 0) dX0_clear_1 (by decide) ?_
  obtain ⟨e1, K⟩ := K
  refine g_puti (c := 0) (k := 1) dX0_clear_2 fc_0 (by decide) (by decide) bw_367 (Or.inl rfl) rfl e1 ?_
  refine g_aload_n dX0_clear_5 rfl 0 rfl ?_
  refine g_iconst (v := 0) dX0_clear_6 (by decide) ?_
  refine g_puti (c := 0) (k := 2) dX0_clear_7 fc_0 (by decide) (by decide) bw_368 (Or.inl rfl) rfl (kkI e1) ?_
  exact g_vret dX0_clear_10 rfl K
theorem dX0_init_0 : decode cX0_init 0 = .ok (.aload_n 0, 1) := by decide +kernel
theorem dX0_init_1 : decode cX0_init 1 = .ok (.invokespecial 3, 3) := by decide +kernel
theorem dX0_init_4 : decode cX0_init 4 = .ok (.aload_n 0, 1) := by decide +kernel
theorem dX0_init_5 : decode cX0_init 5 = .ok (.bipush 40, 2) := by decide +kernel
theorem dX0_init_7 : decode cX0_init 7 = .ok (.anewarray 9, 3) := by decide +kernel
theorem dX0_init_10 : decode cX0_init 10 = .ok (.putfield 11, 3) := by decide +kernel
theorem dX0_init_13 : decode cX0_init 13 = .ok (.aload_n 0, 1) := by decide +kernel
theorem dX0_init_14 : decode cX0_init 14 = .ok (.iconst 0, 1) := by decide +kernel
theorem dX0_init_15 : decode cX0_init 15 = .ok (.putfield 17, 3) := by decide +kernel
theorem dX0_init_18 : decode cX0_init 18 = .ok (.aload_n 0, 1) := by decide +kernel
theorem dX0_init_19 : decode cX0_init 19 = .ok (.iconst 0, 1) := by decide +kernel
theorem dX0_init_20 : decode cX0_init 20 = .ok (.putfield 21, 3) := by decide +kernel
theorem dX0_init_23 : decode cX0_init 23 = .ok (.return_, 1) := by decide +kernel
set_option maxRecDepth 20000 in
set_option maxHeartbeats 4000000 in
theorem vX0_init_0 {l : Launch} {x : CX} {a0 : Nat} {h : PH} {rc rs n0 : Nat} {Q : Option Value → PH → Prop} {X : String → PH → Prop}
    (K : (1 ≤ rc) ∧ (40 ≤ rs) ∧ (AOOk x "LiftBank$Bank") ∧ ∀ (h3 : PH), h3 = (nw h (107, 40)) → ((hK h3 a0).1 = 0) ∧ Q none (sI (sI (sR h3 a0 0 (some (hN h))) a0 1 0) a0 2 0)) :
    Gm l x mX0_init 1 0 [(0, .ref a0)] [] h rc rs n0 Q X := by
  refine g_aload_n dX0_init_0 rfl 0 rfl ?_
  refine g_objInit dX0_init_1 bw_363 bw_30 bw_31 (by decide) (Nat.le_of_ble_eq_true rfl) ?_
  refine g_aload_n dX0_init_4 rfl 0 rfl ?_
  refine g_bipush (v := 40) dX0_init_5 (by decide) ?_
  obtain ⟨e1, e2, z4, K⟩ := K
  refine g_newq (t := 7) (rc' := (rc - 1)) (rs' := (rs - 40)) (N := 40) dX0_init_7 (Or.inr (Or.inr (Or.inl rfl))) rfl bw_364 z4 (by decide) (by decide) (by decide) (by omega) (by omega) ?_
  generalize e6 : (nw h (107, 40)) = h3
  replace K := K h3 e6.symm
  obtain ⟨e5, K⟩ := K
  refine g_putr (c := 0) (k := 0) dX0_init_10 fc_0 (by decide) (by decide) bw_366 (Or.inr ⟨rfl, rfl, rfl⟩) (Or.inr ⟨_, rfl⟩) e5 ?_
  refine g_aload_n dX0_init_13 rfl 0 rfl ?_
  refine g_iconst (v := 0) dX0_init_14 (by decide) ?_
  refine g_puti (c := 0) (k := 1) dX0_init_15 fc_0 (by decide) (by decide) bw_367 (Or.inl rfl) rfl (kkR e5) ?_
  refine g_aload_n dX0_init_18 rfl 0 rfl ?_
  refine g_iconst (v := 0) dX0_init_19 (by decide) ?_
  refine g_puti (c := 0) (k := 2) dX0_init_20 fc_0 (by decide) (by decide) bw_368 (Or.inl rfl) rfl (kkI (kkR e5)) ?_
  exact g_vret dX0_init_23 rfl K
theorem dX0_rowAt_0 : decode cX0_rowAt 0 = .ok (.aload_n 0, 1) := by decide +kernel
theorem dX0_rowAt_1 : decode cX0_rowAt 1 = .ok (.getfield 11, 3) := by decide +kernel
theorem dX0_rowAt_4 : decode cX0_rowAt 4 = .ok (.iload_n 1, 1) := by decide +kernel
theorem dX0_rowAt_5 : decode cX0_rowAt 5 = .ok (.aaload, 1) := by decide +kernel
theorem dX0_rowAt_6 : decode cX0_rowAt 6 = .ok (.astore_n 2, 1) := by decide +kernel
theorem dX0_rowAt_7 : decode cX0_rowAt 7 = .ok (.aload_n 2, 1) := by decide +kernel
theorem dX0_rowAt_8 : decode cX0_rowAt 8 = .ok (.ifnonnull 18, 3) := by decide +kernel
theorem dX0_rowAt_11 : decode cX0_rowAt 11 = .ok (.new 9, 3) := by decide +kernel
theorem dX0_rowAt_14 : decode cX0_rowAt 14 = .ok (.dup, 1) := by decide +kernel
theorem dX0_rowAt_15 : decode cX0_rowAt 15 = .ok (.invokespecial 32, 3) := by decide +kernel
theorem dX0_rowAt_18 : decode cX0_rowAt 18 = .ok (.astore_n 2, 1) := by decide +kernel
theorem dX0_rowAt_19 : decode cX0_rowAt 19 = .ok (.aload_n 0, 1) := by decide +kernel
theorem dX0_rowAt_20 : decode cX0_rowAt 20 = .ok (.getfield 11, 3) := by decide +kernel
theorem dX0_rowAt_23 : decode cX0_rowAt 23 = .ok (.iload_n 1, 1) := by decide +kernel
theorem dX0_rowAt_24 : decode cX0_rowAt 24 = .ok (.aload_n 2, 1) := by decide +kernel
theorem dX0_rowAt_25 : decode cX0_rowAt 25 = .ok (.aastore, 1) := by decide +kernel
theorem dX0_rowAt_26 : decode cX0_rowAt 26 = .ok (.aload_n 2, 1) := by decide +kernel
theorem dX0_rowAt_27 : decode cX0_rowAt 27 = .ok (.areturn, 1) := by decide +kernel
set_option maxRecDepth 20000 in
set_option maxHeartbeats 4000000 in
theorem vX0_rowAt_0 {l : Launch} {x : CX} {a0 : Nat} {x1 : Int32} {h : PH} {rc rs n0 : Nat} {Q : Option Value → PH → Prop} {X : String → PH → Prop}
    (K : ((hK h a0).1 = 0) ∧ ∃ b2, (hR h a0 0 = some b2) ∧ ((hK h b2).1 = 107) ∧ (vp_in x1 (hK h b2).2) ∧ ((∀ b6, hR h b2 x1.toNatClampNeg = some b6 → Q (some (.ref b6)) h) ∧ (hR h b2 x1.toNatClampNeg = none → (1 ≤ rc) ∧ (16 ≤ rs) ∧ ∀ (h10 : PH), h10 = (nw h (1, 0)) → ∃ (mc13 ms14 : Nat) (q11 : PH → Prop), mc13 ≤ (rc - 1) ∧ ms14 ≤ (rs - 16) ∧ CV l x mX1_init 2 mc13 ms14 [.ref (hN h)] h10 q11 ∧ ∀ (h15 : PH), q11 h15 → ((hK h15 a0).1 = 0) ∧ ∃ b17, (hR h15 a0 0 = some b17) ∧ ((hK h15 b17).1 = 107) ∧ (vp_in x1 (hK h15 b17).2) ∧ ((hK h15 (hN h)).1 = 1) ∧ Q (some (.ref (hN h))) (sR h15 b17 x1.toNatClampNeg (some (hN h)))))) :
    Gm l x mX0_rowAt 3 0 [(0, .ref a0), (1, .int x1)] [] h rc rs n0 Q X := by
  refine g_aload_n dX0_rowAt_0 rfl 0 rfl ?_
  obtain ⟨e1, b2, e3, K⟩ := K
  refine g_get (c := 0) (k := 0) (v := .ref b2) dX0_rowAt_1 fc_0 (by decide) (by decide) bw_366 (congrArg pr e3) e1 ?_
  refine g_iload_n dX0_rowAt_4 rfl 1 rfl ?_
  obtain ⟨e4, e5, K⟩ := K
  cases e7 : hR h b2 x1.toNatClampNeg with
  | some b6 =>
    replace K := K.1 b6 e7
    refine g_aald (t := 7) (v := .ref b6) dX0_rowAt_5 (Or.inr (Or.inr rfl)) e4 e5 (congrArg pr e7) ?_
    refine g_astore_n (lv' := [(0, .ref a0), (1, .int x1), (2, .ref b6)]) dX0_rowAt_6 rfl (by decide) rfl ?_
    refine g_aload_n dX0_rowAt_7 rfl 2 rfl ?_
    refine g_ifnonnull (tgt := 26) dX0_rowAt_8 (by decide) ?_
    refine g_aload_n dX0_rowAt_26 rfl 2 rfl ?_
    exact g_aret dX0_rowAt_27 rfl K
  | none =>
    replace K := K.2 e7
    refine g_aald (t := 7) (v := .null) dX0_rowAt_5 (Or.inr (Or.inr rfl)) e4 e5 (congrArg pr e7) ?_
    refine g_astore_nN (lv' := [(0, .ref a0), (1, .int x1), (2, .null)]) dX0_rowAt_6 rfl (by decide) rfl ?_
    refine g_aload_nN dX0_rowAt_7 rfl 2 rfl ?_
    refine g_ifnonnullN dX0_rowAt_8 ?_
    obtain ⟨e8, e9, K⟩ := K
    refine g_new (c := 1) (rc' := (rc - 1)) (rs' := (rs - 16)) dX0_rowAt_11 fc_1 (by decide) (by decide) bw_364 bw_39 bw_3 (by omega) (show (rs - 16) + 16 ≤ rs by omega) ?_
    generalize e24 : (nw h (1, 0)) = h10
    replace K := K h10 e24.symm
    refine g_dup dX0_rowAt_14 rfl ?_
    obtain ⟨mc13, ms14, q11, e22, e23, C12, K⟩ := K
    refine g_callI (M' := mX1_init) (b := (hN h)) (As := []) (rest := [.ref (hN h)]) (rc' := ((rc - 1) - mc13)) (rs' := ((rs - 16) - ms14)) dX0_rowAt_15 bw_452 bw_41 rfl rfl bw_3 bw_42 ⟨by decide +kernel, by decide +kernel, show (parseMethodDescriptor mX1_init.1.desc).map (fun d => d.parameters.length) = some 0 by decide +kernel⟩ (by decide) (by decide) (Nat.le_of_ble_eq_true rfl) C12 (by omega) (by omega) (fun _ _ h => h) ?_
    rintro _ h15 ⟨rfl, K1⟩ -
    replace K := K h15 K1
    show Gm l x mX0_rowAt 3 18 [(0, .ref a0), (1, .int x1), (2, .null)] [.ref (hN h)] h15 ((rc - 1) - mc13) ((rs - 16) - ms14) n0 Q X
    refine g_astore_n (lv' := [(0, .ref a0), (1, .int x1), (2, .ref (hN h))]) dX0_rowAt_18 rfl (by decide) rfl ?_
    refine g_aload_n dX0_rowAt_19 rfl 0 rfl ?_
    obtain ⟨e16, b17, e18, K⟩ := K
    refine g_get (c := 0) (k := 0) (v := .ref b17) dX0_rowAt_20 fc_0 (by decide) (by decide) bw_366 (congrArg pr e18) e16 ?_
    refine g_iload_n dX0_rowAt_23 rfl 1 rfl ?_
    refine g_aload_n dX0_rowAt_24 rfl 2 rfl ?_
    obtain ⟨e19, e20, e21, K⟩ := K
    refine g_aast (t := 7) (ci := 1) dX0_rowAt_25 (Or.inr (Or.inr ⟨rfl, rfl⟩)) fc_1 e19 e20 e21 ?_
    refine g_aload_n dX0_rowAt_26 rfl 2 rfl ?_
    exact g_aret dX0_rowAt_27 rfl K
theorem dX0_keep_0 : decode cX0_keep 0 = .ok (.aload_n 0, 1) := by decide +kernel
theorem dX0_keep_1 : decode cX0_keep 1 = .ok (.getfield 21, 3) := by decide +kernel
theorem dX0_keep_4 : decode cX0_keep 4 = .ok (.bipush 40, 2) := by decide +kernel
theorem dX0_keep_6 : decode cX0_keep 6 = .ok (.if_icmp .lt 22, 3) := by decide +kernel
theorem dX0_keep_9 : decode cX0_keep 9 = .ok (.aload_n 0, 1) := by decide +kernel
theorem dX0_keep_10 : decode cX0_keep 10 = .ok (.aload_n 0, 1) := by decide +kernel
theorem dX0_keep_11 : decode cX0_keep 11 = .ok (.getfield 17, 3) := by decide +kernel
theorem dX0_keep_14 : decode cX0_keep 14 = .ok (.iconst 1, 1) := by decide +kernel
theorem dX0_keep_15 : decode cX0_keep 15 = .ok (.iadd, 1) := by decide +kernel
theorem dX0_keep_16 : decode cX0_keep 16 = .ok (.bipush 40, 2) := by decide +kernel
theorem dX0_keep_18 : decode cX0_keep 18 = .ok (.irem, 1) := by decide +kernel
theorem dX0_keep_19 : decode cX0_keep 19 = .ok (.putfield 17, 3) := by decide +kernel
theorem dX0_keep_22 : decode cX0_keep 22 = .ok (.aload_n 0, 1) := by decide +kernel
theorem dX0_keep_23 : decode cX0_keep 23 = .ok (.bipush 39, 2) := by decide +kernel
theorem dX0_keep_25 : decode cX0_keep 25 = .ok (.putfield 21, 3) := by decide +kernel
theorem dX0_keep_28 : decode cX0_keep 28 = .ok (.aload_n 0, 1) := by decide +kernel
theorem dX0_keep_29 : decode cX0_keep 29 = .ok (.aload_n 0, 1) := by decide +kernel
theorem dX0_keep_30 : decode cX0_keep 30 = .ok (.getfield 17, 3) := by decide +kernel
theorem dX0_keep_33 : decode cX0_keep 33 = .ok (.aload_n 0, 1) := by decide +kernel
theorem dX0_keep_34 : decode cX0_keep 34 = .ok (.getfield 21, 3) := by decide +kernel
theorem dX0_keep_37 : decode cX0_keep 37 = .ok (.iadd, 1) := by decide +kernel
theorem dX0_keep_38 : decode cX0_keep 38 = .ok (.bipush 40, 2) := by decide +kernel
theorem dX0_keep_40 : decode cX0_keep 40 = .ok (.irem, 1) := by decide +kernel
theorem dX0_keep_41 : decode cX0_keep 41 = .ok (.invokevirtual 24, 3) := by decide +kernel
theorem dX0_keep_44 : decode cX0_keep 44 = .ok (.aload_n 1, 1) := by decide +kernel
theorem dX0_keep_45 : decode cX0_keep 45 = .ok (.invokevirtual 28, 3) := by decide +kernel
theorem dX0_keep_48 : decode cX0_keep 48 = .ok (.aload_n 0, 1) := by decide +kernel
theorem dX0_keep_49 : decode cX0_keep 49 = .ok (.dup, 1) := by decide +kernel
theorem dX0_keep_50 : decode cX0_keep 50 = .ok (.getfield 21, 3) := by decide +kernel
theorem dX0_keep_53 : decode cX0_keep 53 = .ok (.iconst 1, 1) := by decide +kernel
theorem dX0_keep_54 : decode cX0_keep 54 = .ok (.iadd, 1) := by decide +kernel
theorem dX0_keep_55 : decode cX0_keep 55 = .ok (.putfield 21, 3) := by decide +kernel
theorem dX0_keep_58 : decode cX0_keep 58 = .ok (.return_, 1) := by decide +kernel
set_option maxRecDepth 20000 in
set_option maxHeartbeats 4000000 in
theorem vX0_keep_0 {l : Launch} {x : CX} {a0 : Nat} {a1 : Nat} {h : PH} {rc rs n0 : Nat} {Q : Option Value → PH → Prop} {X : String → PH → Prop}
    (K : ((hK h a0).1 = 0) ∧ (((hI h a0 2) < 40 → ∃ (mc5 ms6 : Nat) (q3 : Nat → PH → Prop), mc5 ≤ rc ∧ ms6 ≤ rs ∧ CA l x mX0_rowAt 3 mc5 ms6 [.ref a0, .int (((hI h a0 1) + (hI h a0 2)) - ((hI h a0 1) + (hI h a0 2)) / 40 * 40)] h q3 ∧ ∀ (r8 : Nat) (h7 : PH), q3 r8 h7 → ((hK h7 r8).1 = 1) ∧ ∃ (q9 : PH → Prop), CV l x mX1_copyFrom 1 0 0 [.ref r8, .ref a1] h7 q9 ∧ ∀ (h12 : PH), q9 h12 → ((hK h12 a0).1 = 0) ∧ Q none (sI h12 a0 2 ((hI h12 a0 2) + 1))) ∧ (¬ (hI h a0 2) < 40 → ∃ (mc18 ms19 : Nat) (q16 : Nat → PH → Prop), mc18 ≤ rc ∧ ms19 ≤ rs ∧ CA l x mX0_rowAt 3 mc18 ms19 [.ref a0, .int (((hI (sI h a0 1 (((hI h a0 1) + 1) - ((hI h a0 1) + 1) / 40 * 40)) a0 1) + (hI (sI (sI h a0 1 (((hI h a0 1) + 1) - ((hI h a0 1) + 1) / 40 * 40)) a0 2 39) a0 2)) - ((hI (sI h a0 1 (((hI h a0 1) + 1) - ((hI h a0 1) + 1) / 40 * 40)) a0 1) + (hI (sI (sI h a0 1 (((hI h a0 1) + 1) - ((hI h a0 1) + 1) / 40 * 40)) a0 2 39) a0 2)) / 40 * 40)] (sI (sI h a0 1 (((hI h a0 1) + 1) - ((hI h a0 1) + 1) / 40 * 40)) a0 2 39) q16 ∧ ∀ (r21 : Nat) (h20 : PH), q16 r21 h20 → ((hK h20 r21).1 = 1) ∧ ∃ (q22 : PH → Prop), CV l x mX1_copyFrom 1 0 0 [.ref r21, .ref a1] h20 q22 ∧ ∀ (h25 : PH), q22 h25 → ((hK h25 a0).1 = 0) ∧ Q none (sI h25 a0 2 ((hI h25 a0 2) + 1))))) :
    Gm l x mX0_keep 4 0 [(0, .ref a0), (1, .ref a1)] [] h rc rs n0 Q X := by
  refine g_aload_n dX0_keep_0 rfl 0 rfl ?_
  obtain ⟨e1, K⟩ := K
  refine g_get (c := 0) (k := 2) (v := .int (hI h a0 2)) dX0_keep_1 fc_0 (by decide) (by decide) bw_368 rfl e1 ?_
  refine g_bipush (v := 40) dX0_keep_4 (by decide) ?_
  refine g_icmp_lt (tgt := 28) dX0_keep_6 (by decide) (fun c2 => ?_) (fun c2 => ?_)
  · replace K := K.1 c2
    refine g_aload_n dX0_keep_28 rfl 0 rfl ?_
    refine g_aload_n dX0_keep_29 rfl 0 rfl ?_
    refine g_get (c := 0) (k := 1) (v := .int (hI h a0 1)) dX0_keep_30 fc_0 (by decide) (by decide) bw_367 rfl e1 ?_
    refine g_aload_n dX0_keep_33 rfl 0 rfl ?_
    refine g_get (c := 0) (k := 2) (v := .int (hI h a0 2)) dX0_keep_34 fc_0 (by decide) (by decide) bw_368 rfl e1 ?_
    refine g_iadd dX0_keep_37 ?_
    refine g_bipush (v := 40) dX0_keep_38 (by decide) ?_
    refine g_irem dX0_keep_40 (by decide) ?_
    obtain ⟨mc5, ms6, q3, e14, e15, C4, K⟩ := K
    refine g_callV (M' := mX0_rowAt) (b := a0) (As := [.int (((hI h a0 1) + (hI h a0 2)) - ((hI h a0 1) + (hI h a0 2)) / 40 * 40)]) (rest := []) (rc' := (rc - mc5)) (rs' := (rs - ms6)) dX0_keep_41 bw_448 bw_450 bs_1 bw_8 bw_451 ⟨by decide +kernel, by decide +kernel, show (parseMethodDescriptor mX0_rowAt.1.desc).map (fun d => d.parameters.length) = some 1 by decide +kernel⟩ (by decide) (by decide) (Nat.le_of_ble_eq_true rfl) fc_0 (by decide) rfl e1 C4 (by omega) (by omega) (fun _ _ h => h) ?_
    rintro _ h7 ⟨r8, rfl, K1⟩ -
    replace K := K r8 h7 K1
    show Gm l x mX0_keep 4 44 [(0, .ref a0), (1, .ref a1)] [.ref r8] h7 (rc - mc5) (rs - ms6) n0 Q X
    refine g_aload_n dX0_keep_44 rfl 1 rfl ?_
    obtain ⟨e11, K⟩ := K
    obtain ⟨q9, C10, K⟩ := K
    refine g_callV (M' := mX1_copyFrom) (b := r8) (As := [.ref a1]) (rest := []) (rc' := (rc - mc5)) (rs' := (rs - ms6)) dX0_keep_45 bw_453 bw_454 bw_455 bw_3 bw_456 ⟨by decide +kernel, by decide +kernel, show (parseMethodDescriptor mX1_copyFrom.1.desc).map (fun d => d.parameters.length) = some 1 by decide +kernel⟩ (by decide) (by decide) (Nat.le_of_ble_eq_true rfl) fc_1 (by decide) rfl e11 C10 (Nat.le_of_eq (Nat.add_zero _)) (Nat.le_of_eq (Nat.add_zero _)) (fun _ _ h => h) ?_
    rintro _ h12 ⟨rfl, K1⟩ -
    replace K := K h12 K1
    show Gm l x mX0_keep 4 48 [(0, .ref a0), (1, .ref a1)] [] h12 (rc - mc5) (rs - ms6) n0 Q X
    refine g_aload_n dX0_keep_48 rfl 0 rfl ?_
    refine g_dup dX0_keep_49 rfl ?_
    obtain ⟨e13, K⟩ := K
    refine g_get (c := 0) (k := 2) (v := .int (hI h12 a0 2)) dX0_keep_50 fc_0 (by decide) (by decide) bw_368 rfl e13 ?_
    refine g_iconst (v := 1) dX0_keep_53 (by decide) ?_
    refine g_iadd dX0_keep_54 ?_
    refine g_puti (c := 0) (k := 2) dX0_keep_55 fc_0 (by decide) (by decide) bw_368 (Or.inl rfl) rfl e13 ?_
    exact g_vret dX0_keep_58 rfl K
  · replace K := K.2 c2
    refine g_aload_n dX0_keep_9 rfl 0 rfl ?_
    refine g_aload_n dX0_keep_10 rfl 0 rfl ?_
    refine g_get (c := 0) (k := 1) (v := .int (hI h a0 1)) dX0_keep_11 fc_0 (by decide) (by decide) bw_367 rfl e1 ?_
    refine g_iconst (v := 1) dX0_keep_14 (by decide) ?_
    refine g_iadd dX0_keep_15 ?_
    refine g_bipush (v := 40) dX0_keep_16 (by decide) ?_
    refine g_irem dX0_keep_18 (by decide) ?_
    refine g_puti (c := 0) (k := 1) dX0_keep_19 fc_0 (by decide) (by decide) bw_367 (Or.inl rfl) rfl e1 ?_
    refine g_aload_n dX0_keep_22 rfl 0 rfl ?_
    refine g_bipush (v := 39) dX0_keep_23 (by decide) ?_
    refine g_puti (c := 0) (k := 2) dX0_keep_25 fc_0 (by decide) (by decide) bw_368 (Or.inl rfl) rfl (kkI e1) ?_
    refine g_aload_n dX0_keep_28 rfl 0 rfl ?_
    refine g_aload_n dX0_keep_29 rfl 0 rfl ?_
    refine g_get (c := 0) (k := 1) (v := .int (hI (sI h a0 1 (((hI h a0 1) + 1) - ((hI h a0 1) + 1) / 40 * 40)) a0 1)) dX0_keep_30 fc_0 (by decide) (by decide) bw_367 (congrArg Value.int ((skI (by decide)).trans rfl)) (kkI (kkI e1)) ?_
    refine g_aload_n dX0_keep_33 rfl 0 rfl ?_
    refine g_get (c := 0) (k := 2) (v := .int (hI (sI (sI h a0 1 (((hI h a0 1) + 1) - ((hI h a0 1) + 1) / 40 * 40)) a0 2 39) a0 2)) dX0_keep_34 fc_0 (by decide) (by decide) bw_368 rfl (kkI (kkI e1)) ?_
    refine g_iadd dX0_keep_37 ?_
    refine g_bipush (v := 40) dX0_keep_38 (by decide) ?_
    refine g_irem dX0_keep_40 (by decide) ?_
    obtain ⟨mc18, ms19, q16, e27, e28, C17, K⟩ := K
    refine g_callV (M' := mX0_rowAt) (b := a0) (As := [.int (((hI (sI h a0 1 (((hI h a0 1) + 1) - ((hI h a0 1) + 1) / 40 * 40)) a0 1) + (hI (sI (sI h a0 1 (((hI h a0 1) + 1) - ((hI h a0 1) + 1) / 40 * 40)) a0 2 39) a0 2)) - ((hI (sI h a0 1 (((hI h a0 1) + 1) - ((hI h a0 1) + 1) / 40 * 40)) a0 1) + (hI (sI (sI h a0 1 (((hI h a0 1) + 1) - ((hI h a0 1) + 1) / 40 * 40)) a0 2 39) a0 2)) / 40 * 40)]) (rest := []) (rc' := (rc - mc18)) (rs' := (rs - ms19)) dX0_keep_41 bw_448 bw_450 bs_1 bw_8 bw_451 ⟨by decide +kernel, by decide +kernel, show (parseMethodDescriptor mX0_rowAt.1.desc).map (fun d => d.parameters.length) = some 1 by decide +kernel⟩ (by decide) (by decide) (Nat.le_of_ble_eq_true rfl) fc_0 (by decide) rfl (kkI (kkI e1)) C17 (by omega) (by omega) (fun _ _ h => h) ?_
    rintro _ h20 ⟨r21, rfl, K1⟩ -
    replace K := K r21 h20 K1
    show Gm l x mX0_keep 4 44 [(0, .ref a0), (1, .ref a1)] [.ref r21] h20 (rc - mc18) (rs - ms19) n0 Q X
    refine g_aload_n dX0_keep_44 rfl 1 rfl ?_
    obtain ⟨e24, K⟩ := K
    obtain ⟨q22, C23, K⟩ := K
    refine g_callV (M' := mX1_copyFrom) (b := r21) (As := [.ref a1]) (rest := []) (rc' := (rc - mc18)) (rs' := (rs - ms19)) dX0_keep_45 bw_453 bw_454 bw_455 bw_3 bw_456 ⟨by decide +kernel, by decide +kernel, show (parseMethodDescriptor mX1_copyFrom.1.desc).map (fun d => d.parameters.length) = some 1 by decide +kernel⟩ (by decide) (by decide) (Nat.le_of_ble_eq_true rfl) fc_1 (by decide) rfl e24 C23 (Nat.le_of_eq (Nat.add_zero _)) (Nat.le_of_eq (Nat.add_zero _)) (fun _ _ h => h) ?_
    rintro _ h25 ⟨rfl, K1⟩ -
    replace K := K h25 K1
    show Gm l x mX0_keep 4 48 [(0, .ref a0), (1, .ref a1)] [] h25 (rc - mc18) (rs - ms19) n0 Q X
    refine g_aload_n dX0_keep_48 rfl 0 rfl ?_
    refine g_dup dX0_keep_49 rfl ?_
    obtain ⟨e26, K⟩ := K
    refine g_get (c := 0) (k := 2) (v := .int (hI h25 a0 2)) dX0_keep_50 fc_0 (by decide) (by decide) bw_368 rfl e26 ?_
    refine g_iconst (v := 1) dX0_keep_53 (by decide) ?_
    refine g_iadd dX0_keep_54 ?_
    refine g_puti (c := 0) (k := 2) dX0_keep_55 fc_0 (by decide) (by decide) bw_368 (Or.inl rfl) rfl e26 ?_
    exact g_vret dX0_keep_58 rfl K
theorem dX0_takeBack_0 : decode cX0_takeBack 0 = .ok (.aload_n 0, 1) := by decide +kernel
theorem dX0_takeBack_1 : decode cX0_takeBack 1 = .ok (.getfield 21, 3) := by decide +kernel
theorem dX0_takeBack_4 : decode cX0_takeBack 4 = .ok (.ifCond .ne 5, 3) := by decide +kernel
theorem dX0_takeBack_7 : decode cX0_takeBack 7 = .ok (.iconst 0, 1) := by decide +kernel
theorem dX0_takeBack_8 : decode cX0_takeBack 8 = .ok (.ireturn, 1) := by decide +kernel
theorem dX0_takeBack_9 : decode cX0_takeBack 9 = .ok (.aload_n 0, 1) := by decide +kernel
theorem dX0_takeBack_10 : decode cX0_takeBack 10 = .ok (.dup, 1) := by decide +kernel
theorem dX0_takeBack_11 : decode cX0_takeBack 11 = .ok (.getfield 21, 3) := by decide +kernel
theorem dX0_takeBack_14 : decode cX0_takeBack 14 = .ok (.iconst 1, 1) := by decide +kernel
theorem dX0_takeBack_15 : decode cX0_takeBack 15 = .ok (.isub, 1) := by decide +kernel
theorem dX0_takeBack_16 : decode cX0_takeBack 16 = .ok (.putfield 21, 3) := by decide +kernel
theorem dX0_takeBack_19 : decode cX0_takeBack 19 = .ok (.aload_n 1, 1) := by decide +kernel
theorem dX0_takeBack_20 : decode cX0_takeBack 20 = .ok (.aload_n 0, 1) := by decide +kernel
theorem dX0_takeBack_21 : decode cX0_takeBack 21 = .ok (.aload_n 0, 1) := by decide +kernel
theorem dX0_takeBack_22 : decode cX0_takeBack 22 = .ok (.getfield 17, 3) := by decide +kernel
theorem dX0_takeBack_25 : decode cX0_takeBack 25 = .ok (.aload_n 0, 1) := by decide +kernel
theorem dX0_takeBack_26 : decode cX0_takeBack 26 = .ok (.getfield 21, 3) := by decide +kernel
theorem dX0_takeBack_29 : decode cX0_takeBack 29 = .ok (.iadd, 1) := by decide +kernel
theorem dX0_takeBack_30 : decode cX0_takeBack 30 = .ok (.bipush 40, 2) := by decide +kernel
theorem dX0_takeBack_32 : decode cX0_takeBack 32 = .ok (.irem, 1) := by decide +kernel
theorem dX0_takeBack_33 : decode cX0_takeBack 33 = .ok (.invokevirtual 24, 3) := by decide +kernel
theorem dX0_takeBack_36 : decode cX0_takeBack 36 = .ok (.invokevirtual 28, 3) := by decide +kernel
theorem dX0_takeBack_39 : decode cX0_takeBack 39 = .ok (.iconst 1, 1) := by decide +kernel
theorem dX0_takeBack_40 : decode cX0_takeBack 40 = .ok (.ireturn, 1) := by decide +kernel
set_option maxRecDepth 20000 in
set_option maxHeartbeats 4000000 in
theorem vX0_takeBack_0 {l : Launch} {x : CX} {a0 : Nat} {a1 : Nat} {h : PH} {rc rs n0 : Nat} {Q : Option Value → PH → Prop} {X : String → PH → Prop}
    (K : ((hK h a0).1 = 0) ∧ ((¬ (hI h a0 2) = 0 → ∃ (mc5 ms6 : Nat) (q3 : Nat → PH → Prop), mc5 ≤ rc ∧ ms6 ≤ rs ∧ CA l x mX0_rowAt 3 mc5 ms6 [.ref a0, .int (((hI h a0 1) + (hI (sI h a0 2 ((hI h a0 2) - 1)) a0 2)) - ((hI h a0 1) + (hI (sI h a0 2 ((hI h a0 2) - 1)) a0 2)) / 40 * 40)] (sI h a0 2 ((hI h a0 2) - 1)) q3 ∧ ∀ (r8 : Nat) (h7 : PH), q3 r8 h7 → ((hK h7 a1).1 = 1) ∧ ∃ (q9 : PH → Prop), CV l x mX1_copyFrom 1 0 0 [.ref a1, .ref r8] h7 q9 ∧ ∀ (h12 : PH), q9 h12 → ((1 : Int32) = 0 ∨ (1 : Int32) = 1) ∧ Q (some (.int 1)) h12) ∧ ((hI h a0 2) = 0 → ((0 : Int32) = 0 ∨ (0 : Int32) = 1) ∧ Q (some (.int 0)) h))) :
    Gm l x mX0_takeBack 4 0 [(0, .ref a0), (1, .ref a1)] [] h rc rs n0 Q X := by
  refine g_aload_n dX0_takeBack_0 rfl 0 rfl ?_
  obtain ⟨e1, K⟩ := K
  refine g_get (c := 0) (k := 2) (v := .int (hI h a0 2)) dX0_takeBack_1 fc_0 (by decide) (by decide) bw_368 rfl e1 ?_
  refine g_if_ne (tgt := 9) dX0_takeBack_4 (by decide) (fun c2 => ?_) (fun c2 => ?_)
  · replace K := K.1 c2
    refine g_aload_n dX0_takeBack_9 rfl 0 rfl ?_
    refine g_dup dX0_takeBack_10 rfl ?_
    refine g_get (c := 0) (k := 2) (v := .int (hI h a0 2)) dX0_takeBack_11 fc_0 (by decide) (by decide) bw_368 rfl e1 ?_
    refine g_iconst (v := 1) dX0_takeBack_14 (by decide) ?_
    refine g_isub dX0_takeBack_15 ?_
    refine g_puti (c := 0) (k := 2) dX0_takeBack_16 fc_0 (by decide) (by decide) bw_368 (Or.inl rfl) rfl e1 ?_
    refine g_aload_n dX0_takeBack_19 rfl 1 rfl ?_
    refine g_aload_n dX0_takeBack_20 rfl 0 rfl ?_
    refine g_aload_n dX0_takeBack_21 rfl 0 rfl ?_
    refine g_get (c := 0) (k := 1) (v := .int (hI h a0 1)) dX0_takeBack_22 fc_0 (by decide) (by decide) bw_367 (congrArg Value.int ((skI (by decide)).trans rfl)) (kkI e1) ?_
    refine g_aload_n dX0_takeBack_25 rfl 0 rfl ?_
    refine g_get (c := 0) (k := 2) (v := .int (hI (sI h a0 2 ((hI h a0 2) - 1)) a0 2)) dX0_takeBack_26 fc_0 (by decide) (by decide) bw_368 rfl (kkI e1) ?_
    refine g_iadd dX0_takeBack_29 ?_
    refine g_bipush (v := 40) dX0_takeBack_30 (by decide) ?_
    refine g_irem dX0_takeBack_32 (by decide) ?_
    obtain ⟨mc5, ms6, q3, e13, e14, C4, K⟩ := K
    refine g_callV (M' := mX0_rowAt) (b := a0) (As := [.int (((hI h a0 1) + (hI (sI h a0 2 ((hI h a0 2) - 1)) a0 2)) - ((hI h a0 1) + (hI (sI h a0 2 ((hI h a0 2) - 1)) a0 2)) / 40 * 40)]) (rest := [.ref a1]) (rc' := (rc - mc5)) (rs' := (rs - ms6)) dX0_takeBack_33 bw_448 bw_450 bs_1 bw_8 bw_451 ⟨by decide +kernel, by decide +kernel, show (parseMethodDescriptor mX0_rowAt.1.desc).map (fun d => d.parameters.length) = some 1 by decide +kernel⟩ (by decide) (by decide) (Nat.le_of_ble_eq_true rfl) fc_0 (by decide) rfl (kkI e1) C4 (by omega) (by omega) (fun _ _ h => h) ?_
    rintro _ h7 ⟨r8, rfl, K1⟩ -
    replace K := K r8 h7 K1
    show Gm l x mX0_takeBack 4 36 [(0, .ref a0), (1, .ref a1)] [.ref r8, .ref a1] h7 (rc - mc5) (rs - ms6) n0 Q X
    obtain ⟨e11, K⟩ := K
    obtain ⟨q9, C10, K⟩ := K
    refine g_callV (M' := mX1_copyFrom) (b := a1) (As := [.ref r8]) (rest := []) (rc' := (rc - mc5)) (rs' := (rs - ms6)) dX0_takeBack_36 bw_453 bw_454 bw_455 bw_3 bw_456 ⟨by decide +kernel, by decide +kernel, show (parseMethodDescriptor mX1_copyFrom.1.desc).map (fun d => d.parameters.length) = some 1 by decide +kernel⟩ (by decide) (by decide) (Nat.le_of_ble_eq_true rfl) fc_1 (by decide) rfl e11 C10 (Nat.le_of_eq (Nat.add_zero _)) (Nat.le_of_eq (Nat.add_zero _)) (fun _ _ h => h) ?_
    rintro _ h12 ⟨rfl, K1⟩ -
    replace K := K h12 K1
    show Gm l x mX0_takeBack 4 39 [(0, .ref a0), (1, .ref a1)] [] h12 (rc - mc5) (rs - ms6) n0 Q X
    refine g_iconst (v := 1) dX0_takeBack_39 (by decide) ?_
    exact g_zret dX0_takeBack_40 rfl K.1 K.2
  · replace K := K.2 c2
    refine g_iconst (v := 0) dX0_takeBack_7 (by decide) ?_
    exact g_zret dX0_takeBack_8 rfl K.1 K.2
theorem dX0_copyFrom_0 : decode cX0_copyFrom 0 = .ok (.aload_n 0, 1) := by decide +kernel
theorem dX0_copyFrom_1 : decode cX0_copyFrom 1 = .ok (.aload_n 1, 1) := by decide +kernel
theorem dX0_copyFrom_2 : decode cX0_copyFrom 2 = .ok (.getfield 17, 3) := by decide +kernel
theorem dX0_copyFrom_5 : decode cX0_copyFrom 5 = .ok (.putfield 17, 3) := by decide +kernel
theorem dX0_copyFrom_8 : decode cX0_copyFrom 8 = .ok (.aload_n 0, 1) := by decide +kernel
theorem dX0_copyFrom_9 : decode cX0_copyFrom 9 = .ok (.aload_n 1, 1) := by decide +kernel
theorem dX0_copyFrom_10 : decode cX0_copyFrom 10 = .ok (.getfield 21, 3) := by decide +kernel
theorem dX0_copyFrom_13 : decode cX0_copyFrom 13 = .ok (.putfield 21, 3) := by decide +kernel
theorem dX0_copyFrom_16 : decode cX0_copyFrom 16 = .ok (.iconst 0, 1) := by decide +kernel
theorem dX0_copyFrom_17 : decode cX0_copyFrom 17 = .ok (.istore_n 2, 1) := by decide +kernel
theorem dX0_copyFrom_18 : decode cX0_copyFrom 18 = .ok (.iload_n 2, 1) := by decide +kernel
theorem dX0_copyFrom_19 : decode cX0_copyFrom 19 = .ok (.aload_n 0, 1) := by decide +kernel
theorem dX0_copyFrom_20 : decode cX0_copyFrom 20 = .ok (.getfield 21, 3) := by decide +kernel
theorem dX0_copyFrom_23 : decode cX0_copyFrom 23 = .ok (.if_icmp .ge 32, 3) := by decide +kernel
theorem dX0_copyFrom_26 : decode cX0_copyFrom 26 = .ok (.aload_n 0, 1) := by decide +kernel
theorem dX0_copyFrom_27 : decode cX0_copyFrom 27 = .ok (.getfield 17, 3) := by decide +kernel
theorem dX0_copyFrom_30 : decode cX0_copyFrom 30 = .ok (.iload_n 2, 1) := by decide +kernel
theorem dX0_copyFrom_31 : decode cX0_copyFrom 31 = .ok (.iadd, 1) := by decide +kernel
theorem dX0_copyFrom_32 : decode cX0_copyFrom 32 = .ok (.bipush 40, 2) := by decide +kernel
theorem dX0_copyFrom_34 : decode cX0_copyFrom 34 = .ok (.irem, 1) := by decide +kernel
theorem dX0_copyFrom_35 : decode cX0_copyFrom 35 = .ok (.istore_n 3, 1) := by decide +kernel
theorem dX0_copyFrom_36 : decode cX0_copyFrom 36 = .ok (.aload_n 0, 1) := by decide +kernel
theorem dX0_copyFrom_37 : decode cX0_copyFrom 37 = .ok (.iload_n 3, 1) := by decide +kernel
theorem dX0_copyFrom_38 : decode cX0_copyFrom 38 = .ok (.invokevirtual 24, 3) := by decide +kernel
theorem dX0_copyFrom_41 : decode cX0_copyFrom 41 = .ok (.aload_n 1, 1) := by decide +kernel
theorem dX0_copyFrom_42 : decode cX0_copyFrom 42 = .ok (.iload_n 3, 1) := by decide +kernel
theorem dX0_copyFrom_43 : decode cX0_copyFrom 43 = .ok (.invokevirtual 24, 3) := by decide +kernel
theorem dX0_copyFrom_46 : decode cX0_copyFrom 46 = .ok (.invokevirtual 28, 3) := by decide +kernel
theorem dX0_copyFrom_49 : decode cX0_copyFrom 49 = .ok (.iinc 2 1, 3) := by decide +kernel
theorem dX0_copyFrom_52 : decode cX0_copyFrom 52 = .ok (.goto (-34), 3) := by decide +kernel
theorem dX0_copyFrom_55 : decode cX0_copyFrom 55 = .ok (.return_, 1) := by decide +kernel
set_option maxRecDepth 20000 in
set_option maxHeartbeats 4000000 in
theorem vX0_copyFrom_0 {l : Launch} {x : CX} {a0 : Nat} {a1 : Nat} {h : PH} {rc rs n0 : Nat} {Q : Option Value → PH → Prop} {X : String → PH → Prop}
    (K : ((hK h a1).1 = 0) ∧ ((hK h a0).1 = 0) ∧ Gm l x mX0_copyFrom 4 18 [(0, .ref a0), (1, .ref a1), (2, .int 0)] [] (sI (sI h a0 1 (hI h a1 1)) a0 2 (hI h a1 2)) rc rs n0 Q X) :
    Gm l x mX0_copyFrom 4 0 [(0, .ref a0), (1, .ref a1)] [] h rc rs n0 Q X := by
  refine g_aload_n dX0_copyFrom_0 rfl 0 rfl ?_
  refine g_aload_n dX0_copyFrom_1 rfl 1 rfl ?_
  obtain ⟨e1, K⟩ := K
  refine g_get (c := 0) (k := 1) (v := .int (hI h a1 1)) dX0_copyFrom_2 fc_0 (by decide) (by decide) bw_367 rfl e1 ?_
  obtain ⟨e2, K⟩ := K
  refine g_puti (c := 0) (k := 1) dX0_copyFrom_5 fc_0 (by decide) (by decide) bw_367 (Or.inl rfl) rfl e2 ?_
  refine g_aload_n dX0_copyFrom_8 rfl 0 rfl ?_
  refine g_aload_n dX0_copyFrom_9 rfl 1 rfl ?_
  refine g_get (c := 0) (k := 2) (v := .int (hI h a1 2)) dX0_copyFrom_10 fc_0 (by decide) (by decide) bw_368 (congrArg Value.int ((skI (by decide)).trans rfl)) (kkI e1) ?_
  refine g_puti (c := 0) (k := 2) dX0_copyFrom_13 fc_0 (by decide) (by decide) bw_368 (Or.inl rfl) rfl (kkI e2) ?_
  refine g_iconst (v := 0) dX0_copyFrom_16 (by decide) ?_
  refine g_istore_n (lv' := [(0, .ref a0), (1, .ref a1), (2, .int 0)]) dX0_copyFrom_17 rfl (by decide) rfl ?_
  exact K
set_option maxRecDepth 20000 in
set_option maxHeartbeats 4000000 in
theorem vX0_copyFrom_18 {l : Launch} {x : CX} {a0 : Nat} {a1 : Nat} {x2 : Int32} {h : PH} {rc rs n0 : Nat} {Q : Option Value → PH → Prop} {X : String → PH → Prop}
    (K : ((hK h a0).1 = 0) ∧ (((hI h a0 2) ≤ x2 → Q none h) ∧ (¬ (hI h a0 2) ≤ x2 → ∃ (mc5 ms6 : Nat) (q3 : Nat → PH → Prop), mc5 ≤ rc ∧ ms6 ≤ rs ∧ CA l x mX0_rowAt 3 mc5 ms6 [.ref a0, .int (((hI h a0 1) + x2) - ((hI h a0 1) + x2) / 40 * 40)] h q3 ∧ ∀ (r8 : Nat) (h7 : PH), q3 r8 h7 → ((hK h7 a1).1 = 0) ∧ ∃ (mc11 ms12 : Nat) (q9 : Nat → PH → Prop), mc11 ≤ (rc - mc5) ∧ ms12 ≤ (rs - ms6) ∧ CA l x mX0_rowAt 3 mc11 ms12 [.ref a1, .int (((hI h a0 1) + x2) - ((hI h a0 1) + x2) / 40 * 40)] h7 q9 ∧ ∀ (r15 : Nat) (h14 : PH), q9 r15 h14 → ((hK h14 r8).1 = 1) ∧ ∃ (q16 : PH → Prop), CV l x mX1_copyFrom 1 0 0 [.ref r8, .ref r15] h14 q16 ∧ ∀ (h19 : PH), q16 h19 → Gm l x mX0_copyFrom 4 18 [(0, .ref a0), (1, .ref a1), (2, .int (x2 + 1))] [] h19 ((rc - mc5) - mc11) ((rs - ms6) - ms12) n0 Q X))) :
    Gm l x mX0_copyFrom 4 18 [(0, .ref a0), (1, .ref a1), (2, .int x2)] [] h rc rs n0 Q X := by
  refine g_iload_n dX0_copyFrom_18 rfl 2 rfl ?_
  refine g_aload_n dX0_copyFrom_19 rfl 0 rfl ?_
  obtain ⟨e1, K⟩ := K
  refine g_get (c := 0) (k := 2) (v := .int (hI h a0 2)) dX0_copyFrom_20 fc_0 (by decide) (by decide) bw_368 rfl e1 ?_
  refine g_icmp_ge (tgt := 55) dX0_copyFrom_23 (by decide) (fun c2 => ?_) (fun c2 => ?_)
  · replace K := K.1 c2
    exact g_vret dX0_copyFrom_55 rfl K
  · replace K := K.2 c2
    refine g_aload_n dX0_copyFrom_26 rfl 0 rfl ?_
    refine g_get (c := 0) (k := 1) (v := .int (hI h a0 1)) dX0_copyFrom_27 fc_0 (by decide) (by decide) bw_367 rfl e1 ?_
    refine g_iload_n dX0_copyFrom_30 rfl 2 rfl ?_
    refine g_iadd dX0_copyFrom_31 ?_
    refine g_bipush (v := 40) dX0_copyFrom_32 (by decide) ?_
    refine g_irem dX0_copyFrom_34 (by decide) ?_
    refine g_istore_n (lv' := [(0, .ref a0), (1, .ref a1), (2, .int x2), (3, .int (((hI h a0 1) + x2) - ((hI h a0 1) + x2) / 40 * 40))]) dX0_copyFrom_35 rfl (by decide) rfl ?_
    refine g_aload_n dX0_copyFrom_36 rfl 0 rfl ?_
    refine g_iload_n dX0_copyFrom_37 rfl 3 rfl ?_
    obtain ⟨mc5, ms6, q3, e22, e23, C4, K⟩ := K
    refine g_callV (M' := mX0_rowAt) (b := a0) (As := [.int (((hI h a0 1) + x2) - ((hI h a0 1) + x2) / 40 * 40)]) (rest := []) (rc' := (rc - mc5)) (rs' := (rs - ms6)) dX0_copyFrom_38 bw_448 bw_450 bs_1 bw_8 bw_451 ⟨by decide +kernel, by decide +kernel, show (parseMethodDescriptor mX0_rowAt.1.desc).map (fun d => d.parameters.length) = some 1 by decide +kernel⟩ (by decide) (by decide) (Nat.le_of_ble_eq_true rfl) fc_0 (by decide) rfl e1 C4 (by omega) (by omega) (fun _ _ h => h) ?_
    rintro _ h7 ⟨r8, rfl, K1⟩ -
    replace K := K r8 h7 K1
    show Gm l x mX0_copyFrom 4 41 [(0, .ref a0), (1, .ref a1), (2, .int x2), (3, .int (((hI h a0 1) + x2) - ((hI h a0 1) + x2) / 40 * 40))] [.ref r8] h7 (rc - mc5) (rs - ms6) n0 Q X
    refine g_aload_n dX0_copyFrom_41 rfl 1 rfl ?_
    refine g_iload_n dX0_copyFrom_42 rfl 3 rfl ?_
    obtain ⟨e13, K⟩ := K
    obtain ⟨mc11, ms12, q9, e20, e21, C10, K⟩ := K
    refine g_callV (M' := mX0_rowAt) (b := a1) (As := [.int (((hI h a0 1) + x2) - ((hI h a0 1) + x2) / 40 * 40)]) (rest := [.ref r8]) (rc' := ((rc - mc5) - mc11)) (rs' := ((rs - ms6) - ms12)) dX0_copyFrom_43 bw_448 bw_450 bs_1 bw_8 bw_451 ⟨by decide +kernel, by decide +kernel, show (parseMethodDescriptor mX0_rowAt.1.desc).map (fun d => d.parameters.length) = some 1 by decide +kernel⟩ (by decide) (by decide) (Nat.le_of_ble_eq_true rfl) fc_0 (by decide) rfl e13 C10 (by omega) (by omega) (fun _ _ h => h) ?_
    rintro _ h14 ⟨r15, rfl, K1⟩ -
    replace K := K r15 h14 K1
    show Gm l x mX0_copyFrom 4 46 [(0, .ref a0), (1, .ref a1), (2, .int x2), (3, .int (((hI h a0 1) + x2) - ((hI h a0 1) + x2) / 40 * 40))] [.ref r15, .ref r8] h14 ((rc - mc5) - mc11) ((rs - ms6) - ms12) n0 Q X
    obtain ⟨e18, K⟩ := K
    obtain ⟨q16, C17, K⟩ := K
    refine g_callV (M' := mX1_copyFrom) (b := r8) (As := [.ref r15]) (rest := []) (rc' := ((rc - mc5) - mc11)) (rs' := ((rs - ms6) - ms12)) dX0_copyFrom_46 bw_453 bw_454 bw_455 bw_3 bw_456 ⟨by decide +kernel, by decide +kernel, show (parseMethodDescriptor mX1_copyFrom.1.desc).map (fun d => d.parameters.length) = some 1 by decide +kernel⟩ (by decide) (by decide) (Nat.le_of_ble_eq_true rfl) fc_1 (by decide) rfl e18 C17 (Nat.le_of_eq (Nat.add_zero _)) (Nat.le_of_eq (Nat.add_zero _)) (fun _ _ h => h) ?_
    rintro _ h19 ⟨rfl, K1⟩ -
    replace K := K h19 K1
    show Gm l x mX0_copyFrom 4 49 [(0, .ref a0), (1, .ref a1), (2, .int x2), (3, .int (((hI h a0 1) + x2) - ((hI h a0 1) + x2) / 40 * 40))] [] h19 ((rc - mc5) - mc11) ((rs - ms6) - ms12) n0 Q X
    refine g_iinc (v := (x2 + 1)) (lv' := [(0, .ref a0), (1, .ref a1), (2, .int (x2 + 1)), (3, .int (((hI h a0 1) + x2) - ((hI h a0 1) + x2) / 40 * 40))]) dX0_copyFrom_49 2 rfl (by rfl) (by decide) rfl ?_
    refine g_goto (tgt := 18) dX0_copyFrom_52 (by decide) ?_
    exact Gm.sub [0, 1, 2] rfl K
theorem dX3_begin_0 : decode cX3_begin 0 = .ok (.aload_n 0, 1) := by decide +kernel
theorem dX3_begin_1 : decode cX3_begin 1 = .ok (.getfield 12, 3) := by decide +kernel
theorem dX3_begin_4 : decode cX3_begin 4 = .ok (.aload_n 1, 1) := by decide +kernel
theorem dX3_begin_5 : decode cX3_begin 5 = .ok (.invokevirtual 39, 3) := by decide +kernel
theorem dX3_begin_8 : decode cX3_begin 8 = .ok (.aload_n 0, 1) := by decide +kernel
theorem dX3_begin_9 : decode cX3_begin 9 = .ok (.getfield 21, 3) := by decide +kernel
theorem dX3_begin_12 : decode cX3_begin 12 = .ok (.invokevirtual 43, 3) := by decide +kernel
theorem dX3_begin_15 : decode cX3_begin 15 = .ok (.aload_n 0, 1) := by decide +kernel
theorem dX3_begin_16 : decode cX3_begin 16 = .ok (.iconst 0, 1) := by decide +kernel
theorem dX3_begin_17 : decode cX3_begin 17 = .ok (.putfield 32, 3) := by decide +kernel
theorem dX3_begin_20 : decode cX3_begin 20 = .ok (.return_, 1) := by decide +kernel
set_option maxRecDepth 20000 in
set_option maxHeartbeats 4000000 in
theorem vX3_begin_0 {l : Launch} {x : CX} {a0 : Nat} {a1 : Nat} {h : PH} {rc rs n0 : Nat} {Q : Option Value → PH → Prop} {X : String → PH → Prop}
    (K : ((hK h a0).1 = 3) ∧ ∃ b2, (hR h a0 0 = some b2) ∧ ((hK h b2).1 = 1) ∧ ∃ (q4 : PH → Prop), CV l x mX1_copyFrom 1 0 0 [.ref b2, .ref a1] h q4 ∧ ∀ (h7 : PH), q4 h7 → ((hK h7 a0).1 = 3) ∧ ∃ b9, (hR h7 a0 1 = some b9) ∧ ((hK h7 b9).1 = 0) ∧ ∃ (q11 : PH → Prop), CV l x mX0_clear 0 0 0 [.ref b9] h7 q11 ∧ ∀ (h14 : PH), q11 h14 → ((hK h14 a0).1 = 3) ∧ Q none (sI h14 a0 4 0)) :
    Gm l x mX3_begin 2 0 [(0, .ref a0), (1, .ref a1)] [] h rc rs n0 Q X := by
  refine g_aload_n dX3_begin_0 rfl 0 rfl ?_
  obtain ⟨e1, b2, e3, K⟩ := K
  refine g_get (c := 3) (k := 0) (v := .ref b2) dX3_begin_1 fc_3 (by decide) (by decide) bw_377 (congrArg pr e3) e1 ?_
  refine g_aload_n dX3_begin_4 rfl 1 rfl ?_
  obtain ⟨e6, K⟩ := K
  obtain ⟨q4, C5, K⟩ := K
  refine g_callV (M' := mX1_copyFrom) (b := b2) (As := [.ref a1]) (rest := []) (rc' := rc) (rs' := rs) dX3_begin_5 bw_672 bw_454 bw_455 bw_3 bw_456 ⟨by decide +kernel, by decide +kernel, show (parseMethodDescriptor mX1_copyFrom.1.desc).map (fun d => d.parameters.length) = some 1 by decide +kernel⟩ (by decide) (by decide) (Nat.le_of_ble_eq_true rfl) fc_1 (by decide) rfl e6 C5 (Nat.le_of_eq (Nat.add_zero _)) (Nat.le_of_eq (Nat.add_zero _)) (fun _ _ h => h) ?_
  rintro _ h7 ⟨rfl, K1⟩ -
  replace K := K h7 K1
  show Gm l x mX3_begin 2 8 [(0, .ref a0), (1, .ref a1)] [] h7 rc rs n0 Q X
  refine g_aload_n dX3_begin_8 rfl 0 rfl ?_
  obtain ⟨e8, b9, e10, K⟩ := K
  refine g_get (c := 3) (k := 1) (v := .ref b9) dX3_begin_9 fc_3 (by decide) (by decide) bw_379 (congrArg pr e10) e8 ?_
  obtain ⟨e13, K⟩ := K
  obtain ⟨q11, C12, K⟩ := K
  refine g_callV (M' := mX0_clear) (b := b9) (As := []) (rest := []) (rc' := rc) (rs' := rs) dX3_begin_12 bw_890 bw_891 bw_892 bw_8 bw_893 ⟨by decide +kernel, by decide +kernel, show (parseMethodDescriptor mX0_clear.1.desc).map (fun d => d.parameters.length) = some 0 by decide +kernel⟩ (by decide) (by decide) (Nat.le_of_ble_eq_true rfl) fc_0 (by decide) rfl e13 C12 (Nat.le_of_eq (Nat.add_zero _)) (Nat.le_of_eq (Nat.add_zero _)) (fun _ _ h => h) ?_
  rintro _ h14 ⟨rfl, K1⟩ -
  replace K := K h14 K1
  show Gm l x mX3_begin 2 15 [(0, .ref a0), (1, .ref a1)] [] h14 rc rs n0 Q X
  refine g_aload_n dX3_begin_15 rfl 0 rfl ?_
  refine g_iconst (v := 0) dX3_begin_16 (by decide) ?_
  obtain ⟨e15, K⟩ := K
  refine g_puti (c := 3) (k := 4) dX3_begin_17 fc_3 (by decide) (by decide) bw_385 (Or.inl rfl) rfl e15 ?_
  exact g_vret dX3_begin_20 rfl K
theorem dX3_init_0 : decode cX3_init 0 = .ok (.aload_n 0, 1) := by decide +kernel
theorem dX3_init_1 : decode cX3_init 1 = .ok (.invokespecial 3, 3) := by decide +kernel
theorem dX3_init_4 : decode cX3_init 4 = .ok (.aload_n 0, 1) := by decide +kernel
theorem dX3_init_5 : decode cX3_init 5 = .ok (.new 9, 3) := by decide +kernel
theorem dX3_init_8 : decode cX3_init 8 = .ok (.dup, 1) := by decide +kernel
theorem dX3_init_9 : decode cX3_init 9 = .ok (.invokespecial 11, 3) := by decide +kernel
theorem dX3_init_12 : decode cX3_init 12 = .ok (.putfield 12, 3) := by decide +kernel
theorem dX3_init_15 : decode cX3_init 15 = .ok (.aload_n 0, 1) := by decide +kernel
theorem dX3_init_16 : decode cX3_init 16 = .ok (.new 18, 3) := by decide +kernel
theorem dX3_init_19 : decode cX3_init 19 = .ok (.dup, 1) := by decide +kernel
theorem dX3_init_20 : decode cX3_init 20 = .ok (.invokespecial 20, 3) := by decide +kernel
theorem dX3_init_23 : decode cX3_init 23 = .ok (.putfield 21, 3) := by decide +kernel
theorem dX3_init_26 : decode cX3_init 26 = .ok (.aload_n 0, 1) := by decide +kernel
theorem dX3_init_27 : decode cX3_init 27 = .ok (.bipush 8, 2) := by decide +kernel
theorem dX3_init_29 : decode cX3_init 29 = .ok (.newarray .int, 2) := by decide +kernel
theorem dX3_init_31 : decode cX3_init 31 = .ok (.putfield 25, 3) := by decide +kernel
theorem dX3_init_34 : decode cX3_init 34 = .ok (.aload_n 0, 1) := by decide +kernel
theorem dX3_init_35 : decode cX3_init 35 = .ok (.bipush 8, 2) := by decide +kernel
theorem dX3_init_37 : decode cX3_init 37 = .ok (.newarray .int, 2) := by decide +kernel
theorem dX3_init_39 : decode cX3_init 39 = .ok (.putfield 29, 3) := by decide +kernel
theorem dX3_init_42 : decode cX3_init 42 = .ok (.aload_n 0, 1) := by decide +kernel
theorem dX3_init_43 : decode cX3_init 43 = .ok (.iconst 0, 1) := by decide +kernel
theorem dX3_init_44 : decode cX3_init 44 = .ok (.putfield 32, 3) := by decide +kernel
theorem dX3_init_47 : decode cX3_init 47 = .ok (.aload_n 0, 1) := by decide +kernel
theorem dX3_init_48 : decode cX3_init 48 = .ok (.iconst 3, 1) := by decide +kernel
theorem dX3_init_49 : decode cX3_init 49 = .ok (.newarray .int, 2) := by decide +kernel
theorem dX3_init_51 : decode cX3_init 51 = .ok (.putfield 36, 3) := by decide +kernel
theorem dX3_init_54 : decode cX3_init 54 = .ok (.return_, 1) := by decide +kernel
set_option maxRecDepth 20000 in
set_option maxHeartbeats 4000000 in
theorem vX3_init_0 {l : Launch} {x : CX} {a0 : Nat} {h : PH} {rc rs n0 : Nat} {Q : Option Value → PH → Prop} {X : String → PH → Prop}
    (K : (1 ≤ rc) ∧ (16 ≤ rs) ∧ ∀ (h3 : PH), h3 = (nw h (1, 0)) → ∃ (mc6 ms7 : Nat) (q4 : PH → Prop), mc6 ≤ (rc - 1) ∧ ms7 ≤ (rs - 16) ∧ CV l x mX1_init 2 mc6 ms7 [.ref (hN h)] h3 q4 ∧ ∀ (h8 : PH), q4 h8 → ((hK h8 a0).1 = 3) ∧ (1 ≤ ((rc - 1) - mc6)) ∧ (3 ≤ ((rs - 16) - ms7)) ∧ ∀ (h12 : PH), h12 = (nw (sR h8 a0 0 (some (hN h))) (0, 0)) → (NestOk x RX3 20 yX0_init "LiftBank") ∧ ∃ (mc15 ms16 : Nat) (q13 : PH → Prop), mc15 ≤ (((rc - 1) - mc6) - 1) ∧ ms16 ≤ (((rs - 16) - ms7) - 3) ∧ CV l x mX0_init 1 mc15 ms16 [.ref (hN (sR h8 a0 0 (some (hN h))))] h12 q13 ∧ ∀ (h17 : PH), q13 h17 → ((hK h17 a0).1 = 3) ∧ (1 ≤ ((((rc - 1) - mc6) - 1) - mc15)) ∧ (8 ≤ ((((rs - 16) - ms7) - 3) - ms16)) ∧ ∀ (h21 : PH), h21 = (nw (sR h17 a0 1 (some (hN (sR h8 a0 0 (some (hN h)))))) (100, 8)) → ((hK h21 a0).1 = 3) ∧ (2 ≤ ((((rc - 1) - mc6) - 1) - mc15)) ∧ (16 ≤ ((((rs - 16) - ms7) - 3) - ms16)) ∧ ∀ (h25 : PH), h25 = (nw (sR h21 a0 2 (some (hN (sR h17 a0 1 (some (hN (sR h8 a0 0 (some (hN h))))))))) (100, 8)) → ((hK h25 a0).1 = 3) ∧ (3 ≤ ((((rc - 1) - mc6) - 1) - mc15)) ∧ (19 ≤ ((((rs - 16) - ms7) - 3) - ms16)) ∧ ∀ (h29 : PH), h29 = (nw (sI (sR h25 a0 3 (some (hN (sR h21 a0 2 (some (hN (sR h17 a0 1 (some (hN (sR h8 a0 0 (some (hN h)))))))))))) a0 4 0) (100, 3)) → ((hK h29 a0).1 = 3) ∧ Q none (sR h29 a0 5 (some (hN (sI (sR h25 a0 3 (some (hN (sR h21 a0 2 (some (hN (sR h17 a0 1 (some (hN (sR h8 a0 0 (some (hN h)))))))))))) a0 4 0))))) :
    Gm l x mX3_init 3 0 [(0, .ref a0)] [] h rc rs n0 Q X := by
  refine g_aload_n dX3_init_0 rfl 0 rfl ?_
  refine g_objInit dX3_init_1 bw_355 bw_30 bw_31 (by decide) (Nat.le_of_ble_eq_true rfl) ?_
  refine g_aload_n dX3_init_4 rfl 0 rfl ?_
  obtain ⟨e1, e2, K⟩ := K
  refine g_new (c := 1) (rc' := (rc - 1)) (rs' := (rs - 16)) dX3_init_5 fc_1 (by decide) (by decide) bw_356 bw_39 bw_3 (by omega) (show (rs - 16) + 16 ≤ rs by omega) ?_
  generalize e40 : (nw h (1, 0)) = h3
  replace K := K h3 e40.symm
  refine g_dup dX3_init_8 rfl ?_
  obtain ⟨mc6, ms7, q4, e38, e39, C5, K⟩ := K
  refine g_callI (M' := mX1_init) (b := (hN h)) (As := []) (rest := [.ref (hN h), .ref a0]) (rc' := ((rc - 1) - mc6)) (rs' := ((rs - 16) - ms7)) dX3_init_9 bw_357 bw_41 rfl rfl bw_3 bw_42 ⟨by decide +kernel, by decide +kernel, show (parseMethodDescriptor mX1_init.1.desc).map (fun d => d.parameters.length) = some 0 by decide +kernel⟩ (by decide) (by decide) (Nat.le_of_ble_eq_true rfl) C5 (by omega) (by omega) (fun _ _ h => h) ?_
  rintro _ h8 ⟨rfl, K1⟩ -
  replace K := K h8 K1
  show Gm l x mX3_init 3 12 [(0, .ref a0)] [.ref (hN h), .ref a0] h8 ((rc - 1) - mc6) ((rs - 16) - ms7) n0 Q X
  obtain ⟨e9, K⟩ := K
  refine g_putr (c := 3) (k := 0) dX3_init_12 fc_3 (by decide) (by decide) bw_377 (Or.inr ⟨rfl, rfl, rfl⟩) (Or.inl ⟨_, rfl⟩) e9 ?_
  refine g_aload_n dX3_init_15 rfl 0 rfl ?_
  obtain ⟨e10, e11, K⟩ := K
  refine g_new (c := 0) (rc' := (((rc - 1) - mc6) - 1)) (rs' := (((rs - 16) - ms7) - 3)) dX3_init_16 fc_0 (by decide) (by decide) bw_358 bw_359 bw_8 (by omega) (show (((rs - 16) - ms7) - 3) + 3 ≤ ((rs - 16) - ms7) by omega) ?_
  generalize e37 : (nw (sR h8 a0 0 (some (hN h))) (0, 0)) = h12
  replace K := K h12 e37.symm
  refine g_dup dX3_init_19 rfl ?_
  obtain ⟨z36, K⟩ := K
  obtain ⟨mc15, ms16, q13, e34, e35, C14, K⟩ := K
  refine g_callIN (M' := mX0_init) (b := (hN (sR h8 a0 0 (some (hN h))))) (As := []) (rest := [.ref (hN (sR h8 a0 0 (some (hN h)))), .ref a0]) (rc' := ((((rc - 1) - mc6) - 1) - mc15)) (rs' := ((((rs - 16) - ms7) - 3) - ms16)) dX3_init_20 z36 bw_361 rfl rfl bw_8 bw_362 ⟨by decide +kernel, by decide +kernel, show (parseMethodDescriptor mX0_init.1.desc).map (fun d => d.parameters.length) = some 0 by decide +kernel⟩ (by decide) (by decide) (Nat.le_of_ble_eq_true rfl) C14 (by omega) (by omega) (fun _ _ h => h) ?_
  rintro _ h17 ⟨rfl, K1⟩ -
  replace K := K h17 K1
  show Gm l x mX3_init 3 23 [(0, .ref a0)] [.ref (hN (sR h8 a0 0 (some (hN h)))), .ref a0] h17 ((((rc - 1) - mc6) - 1) - mc15) ((((rs - 16) - ms7) - 3) - ms16) n0 Q X
  obtain ⟨e18, K⟩ := K
  refine g_putr (c := 3) (k := 1) dX3_init_23 fc_3 (by decide) (by decide) bw_379 (Or.inr ⟨rfl, rfl, rfl⟩) (Or.inl ⟨_, rfl⟩) e18 ?_
  refine g_aload_n dX3_init_26 rfl 0 rfl ?_
  refine g_bipush (v := 8) dX3_init_27 (by decide) ?_
  obtain ⟨e19, e20, K⟩ := K
  refine g_newa (t := 0) (rc' := (((((rc - 1) - mc6) - 1) - mc15) - 1)) (rs' := (((((rs - 16) - ms7) - 3) - ms16) - 8)) (N := 8) dX3_init_29 (Or.inl ⟨rfl, rfl⟩) bw_348 (by decide) (by decide) (by decide) (by omega) (by omega) ?_
  generalize e33 : (nw (sR h17 a0 1 (some (hN (sR h8 a0 0 (some (hN h)))))) (100, 8)) = h21
  replace K := K h21 e33.symm
  obtain ⟨e22, K⟩ := K
  refine g_putr (c := 3) (k := 2) dX3_init_31 fc_3 (by decide) (by decide) bw_381 (Or.inr ⟨rfl, rfl, rfl⟩) (Or.inr ⟨_, rfl⟩) e22 ?_
  refine g_aload_n dX3_init_34 rfl 0 rfl ?_
  refine g_bipush (v := 8) dX3_init_35 (by decide) ?_
  obtain ⟨e23, e24, K⟩ := K
  refine g_newa (t := 0) (rc' := (((((rc - 1) - mc6) - 1) - mc15) - 2)) (rs' := (((((rs - 16) - ms7) - 3) - ms16) - 16)) (N := 8) dX3_init_37 (Or.inl ⟨rfl, rfl⟩) bw_348 (by decide) (by decide) (by decide) (by omega) (by omega) ?_
  generalize e32 : (nw (sR h21 a0 2 (some (hN (sR h17 a0 1 (some (hN (sR h8 a0 0 (some (hN h))))))))) (100, 8)) = h25
  replace K := K h25 e32.symm
  obtain ⟨e26, K⟩ := K
  refine g_putr (c := 3) (k := 3) dX3_init_39 fc_3 (by decide) (by decide) bw_383 (Or.inr ⟨rfl, rfl, rfl⟩) (Or.inr ⟨_, rfl⟩) e26 ?_
  refine g_aload_n dX3_init_42 rfl 0 rfl ?_
  refine g_iconst (v := 0) dX3_init_43 (by decide) ?_
  refine g_puti (c := 3) (k := 4) dX3_init_44 fc_3 (by decide) (by decide) bw_385 (Or.inl rfl) rfl (kkR e26) ?_
  refine g_aload_n dX3_init_47 rfl 0 rfl ?_
  refine g_iconst (v := 3) dX3_init_48 (by decide) ?_
  obtain ⟨e27, e28, K⟩ := K
  refine g_newa (t := 0) (rc' := (((((rc - 1) - mc6) - 1) - mc15) - 3)) (rs' := (((((rs - 16) - ms7) - 3) - ms16) - 19)) (N := 3) dX3_init_49 (Or.inl ⟨rfl, rfl⟩) bw_348 (by decide) (by decide) (by decide) (by omega) (by omega) ?_
  generalize e31 : (nw (sI (sR h25 a0 3 (some (hN (sR h21 a0 2 (some (hN (sR h17 a0 1 (some (hN (sR h8 a0 0 (some (hN h)))))))))))) a0 4 0) (100, 3)) = h29
  replace K := K h29 e31.symm
  obtain ⟨e30, K⟩ := K
  refine g_putr (c := 3) (k := 5) dX3_init_51 fc_3 (by decide) (by decide) bw_387 (Or.inr ⟨rfl, rfl, rfl⟩) (Or.inr ⟨_, rfl⟩) e30 ?_
  exact g_vret dX3_init_54 rfl K
theorem dX3_copyFrom_0 : decode cX3_copyFrom 0 = .ok (.aload_n 0, 1) := by decide +kernel
theorem dX3_copyFrom_1 : decode cX3_copyFrom 1 = .ok (.getfield 12, 3) := by decide +kernel
theorem dX3_copyFrom_4 : decode cX3_copyFrom 4 = .ok (.aload_n 1, 1) := by decide +kernel
theorem dX3_copyFrom_5 : decode cX3_copyFrom 5 = .ok (.getfield 12, 3) := by decide +kernel
theorem dX3_copyFrom_8 : decode cX3_copyFrom 8 = .ok (.invokevirtual 39, 3) := by decide +kernel
theorem dX3_copyFrom_11 : decode cX3_copyFrom 11 = .ok (.aload_n 0, 1) := by decide +kernel
theorem dX3_copyFrom_12 : decode cX3_copyFrom 12 = .ok (.getfield 21, 3) := by decide +kernel
theorem dX3_copyFrom_15 : decode cX3_copyFrom 15 = .ok (.aload_n 1, 1) := by decide +kernel
theorem dX3_copyFrom_16 : decode cX3_copyFrom 16 = .ok (.getfield 21, 3) := by decide +kernel
theorem dX3_copyFrom_19 : decode cX3_copyFrom 19 = .ok (.invokevirtual 46, 3) := by decide +kernel
theorem dX3_copyFrom_22 : decode cX3_copyFrom 22 = .ok (.aload_n 0, 1) := by decide +kernel
theorem dX3_copyFrom_23 : decode cX3_copyFrom 23 = .ok (.aload_n 1, 1) := by decide +kernel
theorem dX3_copyFrom_24 : decode cX3_copyFrom 24 = .ok (.getfield 32, 3) := by decide +kernel
theorem dX3_copyFrom_27 : decode cX3_copyFrom 27 = .ok (.putfield 32, 3) := by decide +kernel
theorem dX3_copyFrom_30 : decode cX3_copyFrom 30 = .ok (.iconst 0, 1) := by decide +kernel
theorem dX3_copyFrom_31 : decode cX3_copyFrom 31 = .ok (.istore_n 2, 1) := by decide +kernel
theorem dX3_copyFrom_32 : decode cX3_copyFrom 32 = .ok (.iload_n 2, 1) := by decide +kernel
theorem dX3_copyFrom_33 : decode cX3_copyFrom 33 = .ok (.aload_n 0, 1) := by decide +kernel
theorem dX3_copyFrom_34 : decode cX3_copyFrom 34 = .ok (.getfield 32, 3) := by decide +kernel
theorem dX3_copyFrom_37 : decode cX3_copyFrom 37 = .ok (.if_icmp .ge 33, 3) := by decide +kernel
theorem dX3_copyFrom_40 : decode cX3_copyFrom 40 = .ok (.aload_n 0, 1) := by decide +kernel
theorem dX3_copyFrom_41 : decode cX3_copyFrom 41 = .ok (.getfield 25, 3) := by decide +kernel
theorem dX3_copyFrom_44 : decode cX3_copyFrom 44 = .ok (.iload_n 2, 1) := by decide +kernel
theorem dX3_copyFrom_45 : decode cX3_copyFrom 45 = .ok (.aload_n 1, 1) := by decide +kernel
theorem dX3_copyFrom_46 : decode cX3_copyFrom 46 = .ok (.getfield 25, 3) := by decide +kernel
theorem dX3_copyFrom_49 : decode cX3_copyFrom 49 = .ok (.iload_n 2, 1) := by decide +kernel
theorem dX3_copyFrom_50 : decode cX3_copyFrom 50 = .ok (.iaload, 1) := by decide +kernel
theorem dX3_copyFrom_51 : decode cX3_copyFrom 51 = .ok (.iastore, 1) := by decide +kernel
theorem dX3_copyFrom_52 : decode cX3_copyFrom 52 = .ok (.aload_n 0, 1) := by decide +kernel
theorem dX3_copyFrom_53 : decode cX3_copyFrom 53 = .ok (.getfield 29, 3) := by decide +kernel
theorem dX3_copyFrom_56 : decode cX3_copyFrom 56 = .ok (.iload_n 2, 1) := by decide +kernel
theorem dX3_copyFrom_57 : decode cX3_copyFrom 57 = .ok (.aload_n 1, 1) := by decide +kernel
theorem dX3_copyFrom_58 : decode cX3_copyFrom 58 = .ok (.getfield 29, 3) := by decide +kernel
theorem dX3_copyFrom_61 : decode cX3_copyFrom 61 = .ok (.iload_n 2, 1) := by decide +kernel
theorem dX3_copyFrom_62 : decode cX3_copyFrom 62 = .ok (.iaload, 1) := by decide +kernel
theorem dX3_copyFrom_63 : decode cX3_copyFrom 63 = .ok (.iastore, 1) := by decide +kernel
theorem dX3_copyFrom_64 : decode cX3_copyFrom 64 = .ok (.iinc 2 1, 3) := by decide +kernel
theorem dX3_copyFrom_67 : decode cX3_copyFrom 67 = .ok (.goto (-35), 3) := by decide +kernel
theorem dX3_copyFrom_70 : decode cX3_copyFrom 70 = .ok (.iconst 0, 1) := by decide +kernel
theorem dX3_copyFrom_71 : decode cX3_copyFrom 71 = .ok (.istore_n 2, 1) := by decide +kernel
theorem dX3_copyFrom_72 : decode cX3_copyFrom 72 = .ok (.iload_n 2, 1) := by decide +kernel
theorem dX3_copyFrom_73 : decode cX3_copyFrom 73 = .ok (.aload_n 0, 1) := by decide +kernel
theorem dX3_copyFrom_74 : decode cX3_copyFrom 74 = .ok (.getfield 36, 3) := by decide +kernel
theorem dX3_copyFrom_77 : decode cX3_copyFrom 77 = .ok (.arraylength, 1) := by decide +kernel
theorem dX3_copyFrom_78 : decode cX3_copyFrom 78 = .ok (.if_icmp .ge 21, 3) := by decide +kernel
theorem dX3_copyFrom_81 : decode cX3_copyFrom 81 = .ok (.aload_n 0, 1) := by decide +kernel
theorem dX3_copyFrom_82 : decode cX3_copyFrom 82 = .ok (.getfield 36, 3) := by decide +kernel
theorem dX3_copyFrom_85 : decode cX3_copyFrom 85 = .ok (.iload_n 2, 1) := by decide +kernel
theorem dX3_copyFrom_86 : decode cX3_copyFrom 86 = .ok (.aload_n 1, 1) := by decide +kernel
theorem dX3_copyFrom_87 : decode cX3_copyFrom 87 = .ok (.getfield 36, 3) := by decide +kernel
theorem dX3_copyFrom_90 : decode cX3_copyFrom 90 = .ok (.iload_n 2, 1) := by decide +kernel
theorem dX3_copyFrom_91 : decode cX3_copyFrom 91 = .ok (.iaload, 1) := by decide +kernel
theorem dX3_copyFrom_92 : decode cX3_copyFrom 92 = .ok (.iastore, 1) := by decide +kernel
theorem dX3_copyFrom_93 : decode cX3_copyFrom 93 = .ok (.iinc 2 1, 3) := by decide +kernel
theorem dX3_copyFrom_96 : decode cX3_copyFrom 96 = .ok (.goto (-24), 3) := by decide +kernel
theorem dX3_copyFrom_99 : decode cX3_copyFrom 99 = .ok (.return_, 1) := by decide +kernel
set_option maxRecDepth 20000 in
set_option maxHeartbeats 4000000 in
theorem vX3_copyFrom_0 {l : Launch} {x : CX} {a0 : Nat} {a1 : Nat} {h : PH} {rc rs n0 : Nat} {Q : Option Value → PH → Prop} {X : String → PH → Prop}
    (K : ((hK h a0).1 = 3) ∧ ∃ b2, (hR h a0 0 = some b2) ∧ ((hK h a1).1 = 3) ∧ ∃ b5, (hR h a1 0 = some b5) ∧ ((hK h b2).1 = 1) ∧ ∃ (q7 : PH → Prop), CV l x mX1_copyFrom 1 0 0 [.ref b2, .ref b5] h q7 ∧ ∀ (h10 : PH), q7 h10 → ((hK h10 a0).1 = 3) ∧ ∃ b12, (hR h10 a0 1 = some b12) ∧ ((hK h10 a1).1 = 3) ∧ ∃ b15, (hR h10 a1 1 = some b15) ∧ ((hK h10 b12).1 = 0) ∧ ∃ (mc19 ms20 : Nat) (q17 : PH → Prop), mc19 ≤ rc ∧ ms20 ≤ rs ∧ CV l x mX0_copyFrom 4 mc19 ms20 [.ref b12, .ref b15] h10 q17 ∧ ∀ (h22 : PH), q17 h22 → ((hK h22 a1).1 = 3) ∧ ((hK h22 a0).1 = 3) ∧ Gm l x mX3_copyFrom 5 32 [(0, .ref a0), (1, .ref a1), (2, .int 0)] [] (sI h22 a0 4 (hI h22 a1 4)) (rc - mc19) (rs - ms20) n0 Q X) :
    Gm l x mX3_copyFrom 5 0 [(0, .ref a0), (1, .ref a1)] [] h rc rs n0 Q X := by
  refine g_aload_n dX3_copyFrom_0 rfl 0 rfl ?_
  obtain ⟨e1, b2, e3, K⟩ := K
  refine g_get (c := 3) (k := 0) (v := .ref b2) dX3_copyFrom_1 fc_3 (by decide) (by decide) bw_377 (congrArg pr e3) e1 ?_
  refine g_aload_n dX3_copyFrom_4 rfl 1 rfl ?_
  obtain ⟨e4, b5, e6, K⟩ := K
  refine g_get (c := 3) (k := 0) (v := .ref b5) dX3_copyFrom_5 fc_3 (by decide) (by decide) bw_377 (congrArg pr e6) e4 ?_
  obtain ⟨e9, K⟩ := K
  obtain ⟨q7, C8, K⟩ := K
  refine g_callV (M' := mX1_copyFrom) (b := b2) (As := [.ref b5]) (rest := []) (rc' := rc) (rs' := rs) dX3_copyFrom_8 bw_672 bw_454 bw_455 bw_3 bw_456 ⟨by decide +kernel, by decide +kernel, show (parseMethodDescriptor mX1_copyFrom.1.desc).map (fun d => d.parameters.length) = some 1 by decide +kernel⟩ (by decide) (by decide) (Nat.le_of_ble_eq_true rfl) fc_1 (by decide) rfl e9 C8 (Nat.le_of_eq (Nat.add_zero _)) (Nat.le_of_eq (Nat.add_zero _)) (fun _ _ h => h) ?_
  rintro _ h10 ⟨rfl, K1⟩ -
  replace K := K h10 K1
  show Gm l x mX3_copyFrom 5 11 [(0, .ref a0), (1, .ref a1)] [] h10 rc rs n0 Q X
  refine g_aload_n dX3_copyFrom_11 rfl 0 rfl ?_
  obtain ⟨e11, b12, e13, K⟩ := K
  refine g_get (c := 3) (k := 1) (v := .ref b12) dX3_copyFrom_12 fc_3 (by decide) (by decide) bw_379 (congrArg pr e13) e11 ?_
  refine g_aload_n dX3_copyFrom_15 rfl 1 rfl ?_
  obtain ⟨e14, b15, e16, K⟩ := K
  refine g_get (c := 3) (k := 1) (v := .ref b15) dX3_copyFrom_16 fc_3 (by decide) (by decide) bw_379 (congrArg pr e16) e14 ?_
  obtain ⟨e21, K⟩ := K
  obtain ⟨mc19, ms20, q17, e25, e26, C18, K⟩ := K
  refine g_callV (M' := mX0_copyFrom) (b := b12) (As := [.ref b15]) (rest := []) (rc' := (rc - mc19)) (rs' := (rs - ms20)) dX3_copyFrom_19 bw_673 bw_674 bw_675 bw_8 bw_676 ⟨by decide +kernel, by decide +kernel, show (parseMethodDescriptor mX0_copyFrom.1.desc).map (fun d => d.parameters.length) = some 1 by decide +kernel⟩ (by decide) (by decide) (Nat.le_of_ble_eq_true rfl) fc_0 (by decide) rfl e21 C18 (by omega) (by omega) (fun _ _ h => h) ?_
  rintro _ h22 ⟨rfl, K1⟩ -
  replace K := K h22 K1
  show Gm l x mX3_copyFrom 5 22 [(0, .ref a0), (1, .ref a1)] [] h22 (rc - mc19) (rs - ms20) n0 Q X
  refine g_aload_n dX3_copyFrom_22 rfl 0 rfl ?_
  refine g_aload_n dX3_copyFrom_23 rfl 1 rfl ?_
  obtain ⟨e23, K⟩ := K
  refine g_get (c := 3) (k := 4) (v := .int (hI h22 a1 4)) dX3_copyFrom_24 fc_3 (by decide) (by decide) bw_385 rfl e23 ?_
  obtain ⟨e24, K⟩ := K
  refine g_puti (c := 3) (k := 4) dX3_copyFrom_27 fc_3 (by decide) (by decide) bw_385 (Or.inl rfl) rfl e24 ?_
  refine g_iconst (v := 0) dX3_copyFrom_30 (by decide) ?_
  refine g_istore_n (lv' := [(0, .ref a0), (1, .ref a1), (2, .int 0)]) dX3_copyFrom_31 rfl (by decide) rfl ?_
  exact K
set_option maxRecDepth 20000 in
set_option maxHeartbeats 4000000 in
theorem vX3_copyFrom_32 {l : Launch} {x : CX} {a0 : Nat} {a1 : Nat} {x2 : Int32} {h : PH} {rc rs n0 : Nat} {Q : Option Value → PH → Prop} {X : String → PH → Prop}
    (K : ((hK h a0).1 = 3) ∧ (((hI h a0 4) ≤ x2 → Gm l x mX3_copyFrom 5 72 [(0, .ref a0), (1, .ref a1), (2, .int 0)] [] h rc rs n0 Q X) ∧ (¬ (hI h a0 4) ≤ x2 → ∃ b3, (hR h a0 2 = some b3) ∧ ((hK h a1).1 = 3) ∧ ∃ b6, (hR h a1 2 = some b6) ∧ ((hK h b6).1 = 100) ∧ (vp_in x2 (hK h b6).2) ∧ ((hK h b3).1 = 100) ∧ (vp_in x2 (hK h b3).2) ∧ ∃ b12, (hR h a0 3 = some b12) ∧ ∃ b14, (hR h a1 3 = some b14) ∧ ((hK h b14).1 = 100) ∧ (vp_in x2 (hK h b14).2) ∧ ((hK h b12).1 = 100) ∧ (vp_in x2 (hK h b12).2) ∧ Gm l x mX3_copyFrom 5 32 [(0, .ref a0), (1, .ref a1), (2, .int (x2 + 1))] [] (sI (sI h b3 x2.toNatClampNeg (hI h b6 x2.toNatClampNeg)) b12 x2.toNatClampNeg (hI (sI h b3 x2.toNatClampNeg (hI h b6 x2.toNatClampNeg)) b14 x2.toNatClampNeg)) rc rs n0 Q X))) :
    Gm l x mX3_copyFrom 5 32 [(0, .ref a0), (1, .ref a1), (2, .int x2)] [] h rc rs n0 Q X := by
  refine g_iload_n dX3_copyFrom_32 rfl 2 rfl ?_
  refine g_aload_n dX3_copyFrom_33 rfl 0 rfl ?_
  obtain ⟨e1, K⟩ := K
  refine g_get (c := 3) (k := 4) (v := .int (hI h a0 4)) dX3_copyFrom_34 fc_3 (by decide) (by decide) bw_385 rfl e1 ?_
  refine g_icmp_ge (tgt := 70) dX3_copyFrom_37 (by decide) (fun c2 => ?_) (fun c2 => ?_)
  · replace K := K.1 c2
    refine g_iconst (v := 0) dX3_copyFrom_70 (by decide) ?_
    refine g_istore_n (lv' := [(0, .ref a0), (1, .ref a1), (2, .int 0)]) dX3_copyFrom_71 rfl (by decide) rfl ?_
    exact K
  · replace K := K.2 c2
    refine g_aload_n dX3_copyFrom_40 rfl 0 rfl ?_
    obtain ⟨b3, e4, K⟩ := K
    refine g_get (c := 3) (k := 2) (v := .ref b3) dX3_copyFrom_41 fc_3 (by decide) (by decide) bw_381 (congrArg pr e4) e1 ?_
    refine g_iload_n dX3_copyFrom_44 rfl 2 rfl ?_
    refine g_aload_n dX3_copyFrom_45 rfl 1 rfl ?_
    obtain ⟨e5, b6, e7, K⟩ := K
    refine g_get (c := 3) (k := 2) (v := .ref b6) dX3_copyFrom_46 fc_3 (by decide) (by decide) bw_381 (congrArg pr e7) e5 ?_
    refine g_iload_n dX3_copyFrom_49 rfl 2 rfl ?_
    obtain ⟨e8, e9, K⟩ := K
    refine g_iald dX3_copyFrom_50 e8 e9 ?_
    obtain ⟨e10, e11, K⟩ := K
    refine g_iast dX3_copyFrom_51 e10 e11 ?_
    refine g_aload_n dX3_copyFrom_52 rfl 0 rfl ?_
    obtain ⟨b12, e13, K⟩ := K
    refine g_get (c := 3) (k := 3) (v := .ref b12) dX3_copyFrom_53 fc_3 (by decide) (by decide) bw_383 (congrArg pr (krI e13)) (kkI e1) ?_
    refine g_iload_n dX3_copyFrom_56 rfl 2 rfl ?_
    refine g_aload_n dX3_copyFrom_57 rfl 1 rfl ?_
    obtain ⟨b14, e15, K⟩ := K
    refine g_get (c := 3) (k := 3) (v := .ref b14) dX3_copyFrom_58 fc_3 (by decide) (by decide) bw_383 (congrArg pr (krI e15)) (kkI e5) ?_
    refine g_iload_n dX3_copyFrom_61 rfl 2 rfl ?_
    obtain ⟨e16, e17, K⟩ := K
    refine g_iald dX3_copyFrom_62 (kkI e16) (kvI e17) ?_
    obtain ⟨e18, e19, K⟩ := K
    refine g_iast dX3_copyFrom_63 (kkI e18) (kvI e19) ?_
    refine g_iinc (v := (x2 + 1)) (lv' := [(0, .ref a0), (1, .ref a1), (2, .int (x2 + 1))]) dX3_copyFrom_64 2 rfl (by rfl) (by decide) rfl ?_
    refine g_goto (tgt := 32) dX3_copyFrom_67 (by decide) ?_
    exact K
set_option maxRecDepth 20000 in
set_option maxHeartbeats 4000000 in
theorem vX3_copyFrom_72 {l : Launch} {x : CX} {a0 : Nat} {a1 : Nat} {x2 : Int32} {h : PH} {rc rs n0 : Nat} {Q : Option Value → PH → Prop} {X : String → PH → Prop}
    (K : ((hK h a0).1 = 3) ∧ ∃ b2, (hR h a0 5 = some b2) ∧ ((hK h b2).1 = 100) ∧ (((Int32.ofNat (hK h b2).2) ≤ x2 → Q none h) ∧ (¬ (Int32.ofNat (hK h b2).2) ≤ x2 → ((hK h a1).1 = 3) ∧ ∃ b7, (hR h a1 5 = some b7) ∧ ((hK h b7).1 = 100) ∧ (vp_in x2 (hK h b7).2) ∧ (vp_in x2 (hK h b2).2) ∧ Gm l x mX3_copyFrom 5 72 [(0, .ref a0), (1, .ref a1), (2, .int (x2 + 1))] [] (sI h b2 x2.toNatClampNeg (hI h b7 x2.toNatClampNeg)) rc rs n0 Q X))) :
    Gm l x mX3_copyFrom 5 72 [(0, .ref a0), (1, .ref a1), (2, .int x2)] [] h rc rs n0 Q X := by
  refine g_iload_n dX3_copyFrom_72 rfl 2 rfl ?_
  refine g_aload_n dX3_copyFrom_73 rfl 0 rfl ?_
  obtain ⟨e1, b2, e3, K⟩ := K
  refine g_get (c := 3) (k := 5) (v := .ref b2) dX3_copyFrom_74 fc_3 (by decide) (by decide) bw_387 (congrArg pr e3) e1 ?_
  obtain ⟨e4, K⟩ := K
  refine g_alen (t := 0) dX3_copyFrom_77 (by decide) e4 rfl ?_
  refine g_icmp_ge (tgt := 99) dX3_copyFrom_78 (by decide) (fun c5 => ?_) (fun c5 => ?_)
  · replace K := K.1 c5
    exact g_vret dX3_copyFrom_99 rfl K
  · replace K := K.2 c5
    refine g_aload_n dX3_copyFrom_81 rfl 0 rfl ?_
    refine g_get (c := 3) (k := 5) (v := .ref b2) dX3_copyFrom_82 fc_3 (by decide) (by decide) bw_387 (congrArg pr e3) e1 ?_
    refine g_iload_n dX3_copyFrom_85 rfl 2 rfl ?_
    refine g_aload_n dX3_copyFrom_86 rfl 1 rfl ?_
    obtain ⟨e6, b7, e8, K⟩ := K
    refine g_get (c := 3) (k := 5) (v := .ref b7) dX3_copyFrom_87 fc_3 (by decide) (by decide) bw_387 (congrArg pr e8) e6 ?_
    refine g_iload_n dX3_copyFrom_90 rfl 2 rfl ?_
    obtain ⟨e9, e10, K⟩ := K
    refine g_iald dX3_copyFrom_91 e9 e10 ?_
    obtain ⟨e11, K⟩ := K
    refine g_iast dX3_copyFrom_92 e4 e11 ?_
    refine g_iinc (v := (x2 + 1)) (lv' := [(0, .ref a0), (1, .ref a1), (2, .int (x2 + 1))]) dX3_copyFrom_93 2 rfl (by rfl) (by decide) rfl ?_
    refine g_goto (tgt := 72) dX3_copyFrom_96 (by decide) ?_
    exact K
theorem dX5_doneTime_0 : decode cX5_doneTime 0 = .ok (.aload_n 0, 1) := by decide +kernel
theorem dX5_doneTime_1 : decode cX5_doneTime 1 = .ok (.getfield 42, 3) := by decide +kernel
theorem dX5_doneTime_4 : decode cX5_doneTime 4 = .ok (.bipush 20, 2) := by decide +kernel
theorem dX5_doneTime_6 : decode cX5_doneTime 6 = .ok (.iload_n 1, 1) := by decide +kernel
theorem dX5_doneTime_7 : decode cX5_doneTime 7 = .ok (.imul, 1) := by decide +kernel
theorem dX5_doneTime_8 : decode cX5_doneTime 8 = .ok (.iload_n 2, 1) := by decide +kernel
theorem dX5_doneTime_9 : decode cX5_doneTime 9 = .ok (.iadd, 1) := by decide +kernel
theorem dX5_doneTime_10 : decode cX5_doneTime 10 = .ok (.iaload, 1) := by decide +kernel
theorem dX5_doneTime_11 : decode cX5_doneTime 11 = .ok (.ireturn, 1) := by decide +kernel
set_option maxRecDepth 20000 in
set_option maxHeartbeats 4000000 in
theorem vX5_doneTime_0 {l : Launch} {x : CX} {a0 : Nat} {x1 : Int32} {x2 : Int32} {h : PH} {rc rs n0 : Nat} {Q : Option Value → PH → Prop} {X : String → PH → Prop}
    (K : ((hK h a0).1 = 5) ∧ ∃ b2, (hR h a0 8 = some b2) ∧ ((hK h b2).1 = 100) ∧ (vp_in ((20 * x1) + x2) (hK h b2).2) ∧ Q (some (.int (hI h b2 ((20 * x1) + x2).toNatClampNeg))) h) :
    Gm l x mX5_doneTime 0 0 [(0, .ref a0), (1, .int x1), (2, .int x2)] [] h rc rs n0 Q X := by
  refine g_aload_n dX5_doneTime_0 rfl 0 rfl ?_
  obtain ⟨e1, b2, e3, K⟩ := K
  refine g_get (c := 5) (k := 8) (v := .ref b2) dX5_doneTime_1 fc_5 (by decide) (by decide) bw_327 (congrArg pr e3) e1 ?_
  refine g_bipush (v := 20) dX5_doneTime_4 (by decide) ?_
  refine g_iload_n dX5_doneTime_6 rfl 1 rfl ?_
  refine g_imul dX5_doneTime_7 ?_
  refine g_iload_n dX5_doneTime_8 rfl 2 rfl ?_
  refine g_iadd dX5_doneTime_9 ?_
  obtain ⟨e4, e5, K⟩ := K
  refine g_iald dX5_doneTime_10 e4 e5 ?_
  exact g_iret dX5_doneTime_11 rfl K
theorem dX5_unlike_0 : decode cX5_unlike 0 = .ok (.iconst 0, 1) := by decide +kernel
theorem dX5_unlike_1 : decode cX5_unlike 1 = .ok (.istore 4, 2) := by decide +kernel
theorem dX5_unlike_3 : decode cX5_unlike 3 = .ok (.iconst 0, 1) := by decide +kernel
theorem dX5_unlike_4 : decode cX5_unlike 4 = .ok (.istore 5, 2) := by decide +kernel
theorem dX5_unlike_6 : decode cX5_unlike 6 = .ok (.iload 5, 2) := by decide +kernel
theorem dX5_unlike_8 : decode cX5_unlike 8 = .ok (.aload_n 0, 1) := by decide +kernel
theorem dX5_unlike_9 : decode cX5_unlike 9 = .ok (.getfield 21, 3) := by decide +kernel
theorem dX5_unlike_12 : decode cX5_unlike 12 = .ok (.arraylength, 1) := by decide +kernel
theorem dX5_unlike_13 : decode cX5_unlike 13 = .ok (.if_icmp .ge 103, 3) := by decide +kernel
theorem dX5_unlike_16 : decode cX5_unlike 16 = .ok (.lload_n 2, 1) := by decide +kernel
theorem dX5_unlike_17 : decode cX5_unlike 17 = .ok (.iload 5, 2) := by decide +kernel
theorem dX5_unlike_19 : decode cX5_unlike 19 = .ok (.lushr, 1) := by decide +kernel
theorem dX5_unlike_20 : decode cX5_unlike 20 = .ok (.lconst 1, 1) := by decide +kernel
theorem dX5_unlike_21 : decode cX5_unlike 21 = .ok (.land, 1) := by decide +kernel
theorem dX5_unlike_22 : decode cX5_unlike 22 = .ok (.lconst 0, 1) := by decide +kernel
theorem dX5_unlike_23 : decode cX5_unlike 23 = .ok (.lcmp, 1) := by decide +kernel
theorem dX5_unlike_24 : decode cX5_unlike 24 = .ok (.ifCond .eq 7, 3) := by decide +kernel
theorem dX5_unlike_27 : decode cX5_unlike 27 = .ok (.iconst 1, 1) := by decide +kernel
theorem dX5_unlike_28 : decode cX5_unlike 28 = .ok (.goto 4, 3) := by decide +kernel
theorem dX5_unlike_31 : decode cX5_unlike 31 = .ok (.iconst 0, 1) := by decide +kernel
theorem dX5_unlike_32 : decode cX5_unlike 32 = .ok (.istore 6, 2) := by decide +kernel
theorem dX5_unlike_34 : decode cX5_unlike 34 = .ok (.iconst 0, 1) := by decide +kernel
theorem dX5_unlike_35 : decode cX5_unlike 35 = .ok (.istore 7, 2) := by decide +kernel
theorem dX5_unlike_37 : decode cX5_unlike 37 = .ok (.iload 7, 2) := by decide +kernel
theorem dX5_unlike_39 : decode cX5_unlike 39 = .ok (.iload 5, 2) := by decide +kernel
theorem dX5_unlike_41 : decode cX5_unlike 41 = .ok (.if_icmp .ge 61, 3) := by decide +kernel
theorem dX5_unlike_44 : decode cX5_unlike 44 = .ok (.iload 6, 2) := by decide +kernel
theorem dX5_unlike_46 : decode cX5_unlike 46 = .ok (.ifCond .eq 56, 3) := by decide +kernel
theorem dX5_unlike_49 : decode cX5_unlike 49 = .ok (.lload_n 2, 1) := by decide +kernel
theorem dX5_unlike_50 : decode cX5_unlike 50 = .ok (.iload 7, 2) := by decide +kernel
theorem dX5_unlike_52 : decode cX5_unlike 52 = .ok (.lushr, 1) := by decide +kernel
theorem dX5_unlike_53 : decode cX5_unlike 53 = .ok (.lconst 1, 1) := by decide +kernel
theorem dX5_unlike_54 : decode cX5_unlike 54 = .ok (.land, 1) := by decide +kernel
theorem dX5_unlike_55 : decode cX5_unlike 55 = .ok (.lconst 0, 1) := by decide +kernel
theorem dX5_unlike_56 : decode cX5_unlike 56 = .ok (.lcmp, 1) := by decide +kernel
theorem dX5_unlike_57 : decode cX5_unlike 57 = .ok (.ifCond .eq 7, 3) := by decide +kernel
theorem dX5_unlike_60 : decode cX5_unlike 60 = .ok (.iconst 1, 1) := by decide +kernel
theorem dX5_unlike_61 : decode cX5_unlike 61 = .ok (.goto 4, 3) := by decide +kernel
theorem dX5_unlike_64 : decode cX5_unlike 64 = .ok (.iconst 0, 1) := by decide +kernel
theorem dX5_unlike_65 : decode cX5_unlike 65 = .ok (.istore 8, 2) := by decide +kernel
theorem dX5_unlike_67 : decode cX5_unlike 67 = .ok (.iload 8, 2) := by decide +kernel
theorem dX5_unlike_69 : decode cX5_unlike 69 = .ok (.ifCond .eq 20, 3) := by decide +kernel
theorem dX5_unlike_72 : decode cX5_unlike 72 = .ok (.aload_n 0, 1) := by decide +kernel
theorem dX5_unlike_73 : decode cX5_unlike 73 = .ok (.iload 7, 2) := by decide +kernel
theorem dX5_unlike_75 : decode cX5_unlike 75 = .ok (.iload_n 1, 1) := by decide +kernel
theorem dX5_unlike_76 : decode cX5_unlike 76 = .ok (.invokevirtual 121, 3) := by decide +kernel
theorem dX5_unlike_79 : decode cX5_unlike 79 = .ok (.aload_n 0, 1) := by decide +kernel
theorem dX5_unlike_80 : decode cX5_unlike 80 = .ok (.iload 5, 2) := by decide +kernel
theorem dX5_unlike_82 : decode cX5_unlike 82 = .ok (.iload_n 1, 1) := by decide +kernel
theorem dX5_unlike_83 : decode cX5_unlike 83 = .ok (.invokevirtual 121, 3) := by decide +kernel
theorem dX5_unlike_86 : decode cX5_unlike 86 = .ok (.if_icmp .eq 7, 3) := by decide +kernel
theorem dX5_unlike_89 : decode cX5_unlike 89 = .ok (.iconst 1, 1) := by decide +kernel
theorem dX5_unlike_90 : decode cX5_unlike 90 = .ok (.goto 4, 3) := by decide +kernel
theorem dX5_unlike_93 : decode cX5_unlike 93 = .ok (.iconst 0, 1) := by decide +kernel
theorem dX5_unlike_94 : decode cX5_unlike 94 = .ok (.istore 6, 2) := by decide +kernel
theorem dX5_unlike_96 : decode cX5_unlike 96 = .ok (.iinc 7 1, 3) := by decide +kernel
theorem dX5_unlike_99 : decode cX5_unlike 99 = .ok (.goto (-62), 3) := by decide +kernel
theorem dX5_unlike_102 : decode cX5_unlike 102 = .ok (.iload 6, 2) := by decide +kernel
theorem dX5_unlike_104 : decode cX5_unlike 104 = .ok (.ifCond .eq 6, 3) := by decide +kernel
theorem dX5_unlike_107 : decode cX5_unlike 107 = .ok (.iinc 4 1, 3) := by decide +kernel
theorem dX5_unlike_110 : decode cX5_unlike 110 = .ok (.iinc 5 1, 3) := by decide +kernel
theorem dX5_unlike_113 : decode cX5_unlike 113 = .ok (.goto (-107), 3) := by decide +kernel
theorem dX5_unlike_116 : decode cX5_unlike 116 = .ok (.iload 4, 2) := by decide +kernel
theorem dX5_unlike_118 : decode cX5_unlike 118 = .ok (.ireturn, 1) := by decide +kernel
set_option maxRecDepth 20000 in
set_option maxHeartbeats 4000000 in
theorem vX5_unlike_0 {l : Launch} {x : CX} {a0 : Nat} {x1 : Int32} {l2 : Int64} {h : PH} {rc rs n0 : Nat} {Q : Option Value → PH → Prop} {X : String → PH → Prop}
    (K : Gm l x mX5_unlike 1 6 [(0, .ref a0), (1, .int x1), (2, .long l2), (4, .int 0), (5, .int 0)] [] h rc rs n0 Q X) :
    Gm l x mX5_unlike 1 0 [(0, .ref a0), (1, .int x1), (2, .long l2)] [] h rc rs n0 Q X := by
  refine g_iconst (v := 0) dX5_unlike_0 (by decide) ?_
  refine g_istore (lv' := [(0, .ref a0), (1, .int x1), (2, .long l2), (4, .int 0)]) dX5_unlike_1 (by decide) rfl ?_
  refine g_iconst (v := 0) dX5_unlike_3 (by decide) ?_
  refine g_istore (lv' := [(0, .ref a0), (1, .int x1), (2, .long l2), (4, .int 0), (5, .int 0)]) dX5_unlike_4 (by decide) rfl ?_
  exact K
set_option maxRecDepth 20000 in
set_option maxHeartbeats 4000000 in
theorem vX5_unlike_6 {l : Launch} {x : CX} {a0 : Nat} {x1 : Int32} {l2 : Int64} {x4 : Int32} {x5 : Int32} {h : PH} {rc rs n0 : Nat} {Q : Option Value → PH → Prop} {X : String → PH → Prop}
    (K : ((hK h a0).1 = 5) ∧ ∃ b2, (hR h a0 2 = some b2) ∧ ((hK h b2).1 = 102) ∧ (((Int32.ofNat (hK h b2).2) ≤ x5 → Q (some (.int x4)) h) ∧ (¬ (Int32.ofNat (hK h b2).2) ≤ x5 → ∀ (y7 : Int32), y7 = (if (lg_cmp ((lus l2 x5) &&& 1) 0) = 0 then 0 else 1 : Int32) → Gm l x mX5_unlike 1 37 [(0, .ref a0), (1, .int x1), (2, .long l2), (4, .int x4), (5, .int x5), (6, .int y7), (7, .int 0)] [] h rc rs n0 Q X))) :
    Gm l x mX5_unlike 1 6 [(0, .ref a0), (1, .int x1), (2, .long l2), (4, .int x4), (5, .int x5)] [] h rc rs n0 Q X := by
  refine g_iload dX5_unlike_6 4 rfl ?_
  refine g_aload_n dX5_unlike_8 rfl 0 rfl ?_
  obtain ⟨e1, b2, e3, K⟩ := K
  refine g_get (c := 5) (k := 2) (v := .ref b2) dX5_unlike_9 fc_5 (by decide) (by decide) bw_317 (congrArg pr e3) e1 ?_
  obtain ⟨e4, K⟩ := K
  refine g_alen (t := 2) dX5_unlike_12 (by decide) e4 rfl ?_
  refine g_icmp_ge (tgt := 116) dX5_unlike_13 (by decide) (fun c5 => ?_) (fun c5 => ?_)
  · replace K := K.1 c5
    refine g_iload dX5_unlike_116 3 rfl ?_
    exact g_iret dX5_unlike_118 rfl K
  · replace K := K.2 c5
    refine g_lload_n dX5_unlike_16 rfl 2 rfl ?_
    refine g_iload dX5_unlike_17 4 rfl ?_
    refine g_lushr dX5_unlike_19 ?_
    refine g_lconst (v := 1) dX5_unlike_20 (by decide) ?_
    refine g_land dX5_unlike_21 ?_
    refine g_lconst (v := 0) dX5_unlike_22 (by decide) ?_
    refine g_lcmp dX5_unlike_23 ?_
    have KJ : Gm l x mX5_unlike 1 32 [(0, .ref a0), (1, .int x1), (2, .long l2), (4, .int x4), (5, .int x5)] [.int (if (lg_cmp ((lus l2 x5) &&& 1) 0) = 0 then 0 else 1 : Int32)] h rc rs n0 Q X := by
      refine g_nmI (fun y7 e8 => ?_)
      replace K := K y7 e8
      refine g_istore (lv' := [(0, .ref a0), (1, .int x1), (2, .long l2), (4, .int x4), (5, .int x5), (6, .int y7)]) dX5_unlike_32 (by decide) rfl ?_
      refine g_iconst (v := 0) dX5_unlike_34 (by decide) ?_
      refine g_istore (lv' := [(0, .ref a0), (1, .int x1), (2, .long l2), (4, .int x4), (5, .int x5), (6, .int y7), (7, .int 0)]) dX5_unlike_35 (by decide) rfl ?_
      exact K
    refine g_if_eq (tgt := 31) dX5_unlike_24 (by decide) (fun c6 => ?_) (fun c6 => ?_)
    · refine g_iconst (v := 0) dX5_unlike_31 (by decide) ?_
      first | (simp only [if_pos c6] at KJ; exact KJ) | (simp only [if_pos c6, ite_true, ite_false, eq_self] at KJ; exact KJ) | (simp only [if_pos c6] at KJ ⊢; exact KJ) | exact KJ
    · refine g_iconst (v := 1) dX5_unlike_27 (by decide) ?_
      refine g_goto (tgt := 32) dX5_unlike_28 (by decide) ?_
      first | (simp only [if_neg c6] at KJ; exact KJ) | (simp only [if_neg c6, ite_true, ite_false, eq_self] at KJ; exact KJ) | (simp only [if_neg c6] at KJ ⊢; exact KJ) | exact KJ
set_option maxRecDepth 20000 in
set_option maxHeartbeats 4000000 in
theorem vX5_unlike_37 {l : Launch} {x : CX} {a0 : Nat} {x1 : Int32} {l2 : Int64} {x4 : Int32} {x5 : Int32} {x6 : Int32} {x7 : Int32} {h : PH} {rc rs n0 : Nat} {Q : Option Value → PH → Prop} {X : String → PH → Prop}
    (K : ((x5 ≤ x7 → Gm l x mX5_unlike 1 6 [(0, .ref a0), (1, .int x1), (2, .long l2), (4, .int (if x6 = 0 then x4 else (x4 + 1) : Int32)), (5, .int (x5 + 1))] [] h rc rs n0 Q X) ∧ (¬ x5 ≤ x7 → ((x6 = 0 → Gm l x mX5_unlike 1 6 [(0, .ref a0), (1, .int x1), (2, .long l2), (4, .int (if x6 = 0 then x4 else (x4 + 1) : Int32)), (5, .int (x5 + 1))] [] h rc rs n0 Q X) ∧ (¬ x6 = 0 → ∀ (y6 : Int32), y6 = (if (lg_cmp ((lus l2 x7) &&& 1) 0) = 0 then 0 else 1 : Int32) → ((y6 = 0 → Gm l x mX5_unlike 1 37 [(0, .ref a0), (1, .int x1), (2, .long l2), (4, .int x4), (5, .int x5), (6, .int 1), (7, .int (x7 + 1))] [] h rc rs n0 Q X) ∧ (¬ y6 = 0 → ((hK h a0).1 = 5) ∧ ∃ (q9 : Int32 → PH → Prop), CI l x mX5_doneTime 0 0 0 [.ref a0, .int x7, .int x1] h q9 ∧ ∀ (r13 : Int32) (h12 : PH), q9 r13 h12 → ((hK h12 a0).1 = 5) ∧ ∃ (q14 : Int32 → PH → Prop), CI l x mX5_doneTime 0 0 0 [.ref a0, .int x5, .int x1] h12 q14 ∧ ∀ (r18 : Int32) (h17 : PH), q14 r18 h17 → Gm l x mX5_unlike 1 37 [(0, .ref a0), (1, .int x1), (2, .long l2), (4, .int x4), (5, .int x5), (6, .int (if r13 = r18 then 0 else 1 : Int32)), (7, .int (x7 + 1))] [] h17 rc rs n0 Q X))))))) :
    Gm l x mX5_unlike 1 37 [(0, .ref a0), (1, .int x1), (2, .long l2), (4, .int x4), (5, .int x5), (6, .int x6), (7, .int x7)] [] h rc rs n0 Q X := by
  refine g_iload dX5_unlike_37 6 rfl ?_
  refine g_iload dX5_unlike_39 4 rfl ?_
  refine g_icmp_ge (tgt := 102) dX5_unlike_41 (by decide) (fun c1 => ?_) (fun c1 => ?_)
  · replace K := K.1 c1
    refine g_iload dX5_unlike_102 5 rfl ?_
    have KJ : Gm l x mX5_unlike 1 110 [(0, .ref a0), (1, .int x1), (2, .long l2), (4, .int (if x6 = 0 then x4 else (x4 + 1) : Int32)), (5, .int x5), (6, .int x6), (7, .int x7)] [] h rc rs n0 Q X := by
      refine g_iinc (v := (x5 + 1)) (lv' := [(0, .ref a0), (1, .int x1), (2, .long l2), (4, .int (if x6 = 0 then x4 else (x4 + 1) : Int32)), (5, .int (x5 + 1)), (6, .int x6), (7, .int x7)]) dX5_unlike_110 4 rfl (by rfl) (by decide) rfl ?_
      refine g_goto (tgt := 6) dX5_unlike_113 (by decide) ?_
      exact Gm.sub [0, 1, 2, 3, 4] rfl K
    refine g_if_eq (tgt := 110) dX5_unlike_104 (by decide) (fun c2 => ?_) (fun c2 => ?_)
    · first | (simp only [if_pos c2] at KJ; exact KJ) | (simp only [if_pos c2, ite_true, ite_false, eq_self] at KJ; exact KJ) | (simp only [if_pos c2] at KJ ⊢; exact KJ) | exact KJ
    · refine g_iinc (v := (x4 + 1)) (lv' := [(0, .ref a0), (1, .int x1), (2, .long l2), (4, .int (x4 + 1)), (5, .int x5), (6, .int x6), (7, .int x7)]) dX5_unlike_107 3 rfl (by rfl) (by decide) rfl ?_
      first | (simp only [if_neg c2] at KJ; exact KJ) | (simp only [if_neg c2, ite_true, ite_false, eq_self] at KJ; exact KJ) | (simp only [if_neg c2] at KJ ⊢; exact KJ) | exact KJ
  · replace K := K.2 c1
    refine g_iload dX5_unlike_44 5 rfl ?_
    refine g_if_eq (tgt := 102) dX5_unlike_46 (by decide) (fun c3 => ?_) (fun c3 => ?_)
    · replace K := K.1 c3
      refine g_iload dX5_unlike_102 5 rfl ?_
      have KJ : Gm l x mX5_unlike 1 110 [(0, .ref a0), (1, .int x1), (2, .long l2), (4, .int (if x6 = 0 then x4 else (x4 + 1) : Int32)), (5, .int x5), (6, .int x6), (7, .int x7)] [] h rc rs n0 Q X := by
        refine g_iinc (v := (x5 + 1)) (lv' := [(0, .ref a0), (1, .int x1), (2, .long l2), (4, .int (if x6 = 0 then x4 else (x4 + 1) : Int32)), (5, .int (x5 + 1)), (6, .int x6), (7, .int x7)]) dX5_unlike_110 4 rfl (by rfl) (by decide) rfl ?_
        refine g_goto (tgt := 6) dX5_unlike_113 (by decide) ?_
        exact Gm.sub [0, 1, 2, 3, 4] rfl K
      refine g_if_eq (tgt := 110) dX5_unlike_104 (by decide) (fun c4 => ?_) (fun c4 => ?_)
      · first | (simp only [if_pos c4] at KJ; exact KJ) | (simp only [if_pos c4, ite_true, ite_false, eq_self] at KJ; exact KJ) | (simp only [if_pos c4] at KJ ⊢; exact KJ) | exact KJ
      · refine g_iinc (v := (x4 + 1)) (lv' := [(0, .ref a0), (1, .int x1), (2, .long l2), (4, .int (x4 + 1)), (5, .int x5), (6, .int x6), (7, .int x7)]) dX5_unlike_107 3 rfl (by rfl) (by decide) rfl ?_
        first | (simp only [if_neg c4] at KJ; exact KJ) | (simp only [if_neg c4, ite_true, ite_false, eq_self] at KJ; exact KJ) | (simp only [if_neg c4] at KJ ⊢; exact KJ) | exact KJ
    · replace K := K.2 c3
      refine g_lload_n dX5_unlike_49 rfl 2 rfl ?_
      refine g_iload dX5_unlike_50 6 rfl ?_
      refine g_lushr dX5_unlike_52 ?_
      refine g_lconst (v := 1) dX5_unlike_53 (by decide) ?_
      refine g_land dX5_unlike_54 ?_
      refine g_lconst (v := 0) dX5_unlike_55 (by decide) ?_
      refine g_lcmp dX5_unlike_56 ?_
      have KJ : Gm l x mX5_unlike 1 65 [(0, .ref a0), (1, .int x1), (2, .long l2), (4, .int x4), (5, .int x5), (6, .int x6), (7, .int x7)] [.int (if (lg_cmp ((lus l2 x7) &&& 1) 0) = 0 then 0 else 1 : Int32)] h rc rs n0 Q X := by
        refine g_nmI (fun y6 e7 => ?_)
        replace K := K y6 e7
        refine g_istore (lv' := [(0, .ref a0), (1, .int x1), (2, .long l2), (4, .int x4), (5, .int x5), (6, .int x6), (7, .int x7), (8, .int y6)]) dX5_unlike_65 (by decide) rfl ?_
        refine g_iload dX5_unlike_67 7 rfl ?_
        refine g_if_eq (tgt := 89) dX5_unlike_69 (by decide) (fun c8 => ?_) (fun c8 => ?_)
        · replace K := K.1 c8
          refine g_iconst (v := 1) dX5_unlike_89 (by decide) ?_
          refine g_goto (tgt := 94) dX5_unlike_90 (by decide) ?_
          refine g_istore (lv' := [(0, .ref a0), (1, .int x1), (2, .long l2), (4, .int x4), (5, .int x5), (6, .int 1), (7, .int x7), (8, .int y6)]) dX5_unlike_94 (by decide) rfl ?_
          refine g_iinc (v := (x7 + 1)) (lv' := [(0, .ref a0), (1, .int x1), (2, .long l2), (4, .int x4), (5, .int x5), (6, .int 1), (7, .int (x7 + 1)), (8, .int y6)]) dX5_unlike_96 6 rfl (by rfl) (by decide) rfl ?_
          refine g_goto (tgt := 37) dX5_unlike_99 (by decide) ?_
          exact Gm.sub [0, 1, 2, 3, 4, 5, 6] rfl K
        · replace K := K.2 c8
          refine g_aload_n dX5_unlike_72 rfl 0 rfl ?_
          refine g_iload dX5_unlike_73 6 rfl ?_
          refine g_iload_n dX5_unlike_75 rfl 1 rfl ?_
          obtain ⟨e11, K⟩ := K
          obtain ⟨q9, C10, K⟩ := K
          refine g_callV (M' := mX5_doneTime) (b := a0) (As := [.int x7, .int x1]) (rest := []) (rc' := rc) (rs' := rs) dX5_unlike_76 bw_1143 bw_1104 bw_1105 bw_6 bw_1106 ⟨by decide +kernel, by decide +kernel, show (parseMethodDescriptor mX5_doneTime.1.desc).map (fun d => d.parameters.length) = some 2 by decide +kernel⟩ (by decide) (by decide) (Nat.le_of_ble_eq_true rfl) fc_5 (by decide) rfl e11 C10 (Nat.le_of_eq (Nat.add_zero _)) (Nat.le_of_eq (Nat.add_zero _)) (fun _ _ h => h) ?_
          rintro _ h12 ⟨r13, rfl, K1⟩ -
          replace K := K r13 h12 K1
          show Gm l x mX5_unlike 1 79 [(0, .ref a0), (1, .int x1), (2, .long l2), (4, .int x4), (5, .int x5), (6, .int x6), (7, .int x7), (8, .int y6)] [.int r13] h12 rc rs n0 Q X
          refine g_aload_n dX5_unlike_79 rfl 0 rfl ?_
          refine g_iload dX5_unlike_80 4 rfl ?_
          refine g_iload_n dX5_unlike_82 rfl 1 rfl ?_
          obtain ⟨e16, K⟩ := K
          obtain ⟨q14, C15, K⟩ := K
          refine g_callV (M' := mX5_doneTime) (b := a0) (As := [.int x5, .int x1]) (rest := [.int r13]) (rc' := rc) (rs' := rs) dX5_unlike_83 bw_1143 bw_1104 bw_1105 bw_6 bw_1106 ⟨by decide +kernel, by decide +kernel, show (parseMethodDescriptor mX5_doneTime.1.desc).map (fun d => d.parameters.length) = some 2 by decide +kernel⟩ (by decide) (by decide) (Nat.le_of_ble_eq_true rfl) fc_5 (by decide) rfl e16 C15 (Nat.le_of_eq (Nat.add_zero _)) (Nat.le_of_eq (Nat.add_zero _)) (fun _ _ h => h) ?_
          rintro _ h17 ⟨r18, rfl, K1⟩ -
          replace K := K r18 h17 K1
          show Gm l x mX5_unlike 1 86 [(0, .ref a0), (1, .int x1), (2, .long l2), (4, .int x4), (5, .int x5), (6, .int x6), (7, .int x7), (8, .int y6)] [.int r18, .int r13] h17 rc rs n0 Q X
          have KJ : Gm l x mX5_unlike 1 94 [(0, .ref a0), (1, .int x1), (2, .long l2), (4, .int x4), (5, .int x5), (6, .int x6), (7, .int x7), (8, .int y6)] [.int (if r13 = r18 then 0 else 1 : Int32)] h17 rc rs n0 Q X := by
            refine g_istore (lv' := [(0, .ref a0), (1, .int x1), (2, .long l2), (4, .int x4), (5, .int x5), (6, .int (if r13 = r18 then 0 else 1 : Int32)), (7, .int x7), (8, .int y6)]) dX5_unlike_94 (by decide) rfl ?_
            refine g_iinc (v := (x7 + 1)) (lv' := [(0, .ref a0), (1, .int x1), (2, .long l2), (4, .int x4), (5, .int x5), (6, .int (if r13 = r18 then 0 else 1 : Int32)), (7, .int (x7 + 1)), (8, .int y6)]) dX5_unlike_96 6 rfl (by rfl) (by decide) rfl ?_
            refine g_goto (tgt := 37) dX5_unlike_99 (by decide) ?_
            exact Gm.sub [0, 1, 2, 3, 4, 5, 6] rfl K
          refine g_icmp_eq (tgt := 93) dX5_unlike_86 (by decide) (fun c19 => ?_) (fun c19 => ?_)
          · refine g_iconst (v := 0) dX5_unlike_93 (by decide) ?_
            first | (simp only [if_pos c19] at KJ; exact KJ) | (simp only [if_pos c19, ite_true, ite_false, eq_self] at KJ; exact KJ) | (simp only [if_pos c19] at KJ ⊢; exact KJ) | exact KJ
          · refine g_iconst (v := 1) dX5_unlike_89 (by decide) ?_
            refine g_goto (tgt := 94) dX5_unlike_90 (by decide) ?_
            first | (simp only [if_neg c19] at KJ; exact KJ) | (simp only [if_neg c19, ite_true, ite_false, eq_self] at KJ; exact KJ) | (simp only [if_neg c19] at KJ ⊢; exact KJ) | exact KJ
      refine g_if_eq (tgt := 64) dX5_unlike_57 (by decide) (fun c5 => ?_) (fun c5 => ?_)
      · refine g_iconst (v := 0) dX5_unlike_64 (by decide) ?_
        first | (simp only [if_pos c5] at KJ; exact KJ) | (simp only [if_pos c5, ite_true, ite_false, eq_self] at KJ; exact KJ) | (simp only [if_pos c5] at KJ ⊢; exact KJ) | exact KJ
      · refine g_iconst (v := 1) dX5_unlike_60 (by decide) ?_
        refine g_goto (tgt := 65) dX5_unlike_61 (by decide) ?_
        first | (simp only [if_neg c5] at KJ; exact KJ) | (simp only [if_neg c5, ite_true, ite_false, eq_self] at KJ; exact KJ) | (simp only [if_neg c5] at KJ ⊢; exact KJ) | exact KJ
theorem dX5_begin_0 : decode cX5_begin 0 = .ok (.aload_n 0, 1) := by decide +kernel
theorem dX5_begin_1 : decode cX5_begin 1 = .ok (.getfield 12, 3) := by decide +kernel
theorem dX5_begin_4 : decode cX5_begin 4 = .ok (.aload_n 1, 1) := by decide +kernel
theorem dX5_begin_5 : decode cX5_begin 5 = .ok (.invokevirtual 45, 3) := by decide +kernel
theorem dX5_begin_8 : decode cX5_begin 8 = .ok (.iconst 0, 1) := by decide +kernel
theorem dX5_begin_9 : decode cX5_begin 9 = .ok (.istore_n 2, 1) := by decide +kernel
theorem dX5_begin_10 : decode cX5_begin 10 = .ok (.iload_n 2, 1) := by decide +kernel
theorem dX5_begin_11 : decode cX5_begin 11 = .ok (.aload_n 0, 1) := by decide +kernel
theorem dX5_begin_12 : decode cX5_begin 12 = .ok (.getfield 21, 3) := by decide +kernel
theorem dX5_begin_15 : decode cX5_begin 15 = .ok (.arraylength, 1) := by decide +kernel
theorem dX5_begin_16 : decode cX5_begin 16 = .ok (.if_icmp .ge 16, 3) := by decide +kernel
theorem dX5_begin_19 : decode cX5_begin 19 = .ok (.aload_n 0, 1) := by decide +kernel
theorem dX5_begin_20 : decode cX5_begin 20 = .ok (.getfield 21, 3) := by decide +kernel
theorem dX5_begin_23 : decode cX5_begin 23 = .ok (.iload_n 2, 1) := by decide +kernel
theorem dX5_begin_24 : decode cX5_begin 24 = .ok (.iconst 0, 1) := by decide +kernel
theorem dX5_begin_25 : decode cX5_begin 25 = .ok (.bastore, 1) := by decide +kernel
theorem dX5_begin_26 : decode cX5_begin 26 = .ok (.iinc 2 1, 3) := by decide +kernel
theorem dX5_begin_29 : decode cX5_begin 29 = .ok (.goto (-19), 3) := by decide +kernel
theorem dX5_begin_32 : decode cX5_begin 32 = .ok (.return_, 1) := by decide +kernel
set_option maxRecDepth 20000 in
set_option maxHeartbeats 4000000 in
theorem vX5_begin_0 {l : Launch} {x : CX} {a0 : Nat} {a1 : Nat} {h : PH} {rc rs n0 : Nat} {Q : Option Value → PH → Prop} {X : String → PH → Prop}
    (K : ((hK h a0).1 = 5) ∧ ∃ b2, (hR h a0 0 = some b2) ∧ ((hK h b2).1 = 1) ∧ ∃ (q4 : PH → Prop), CV l x mX1_copyFrom 1 0 0 [.ref b2, .ref a1] h q4 ∧ ∀ (h7 : PH), q4 h7 → Gm l x mX5_begin 2 10 [(0, .ref a0), (1, .ref a1), (2, .int 0)] [] h7 rc rs n0 Q X) :
    Gm l x mX5_begin 2 0 [(0, .ref a0), (1, .ref a1)] [] h rc rs n0 Q X := by
  refine g_aload_n dX5_begin_0 rfl 0 rfl ?_
  obtain ⟨e1, b2, e3, K⟩ := K
  refine g_get (c := 5) (k := 0) (v := .ref b2) dX5_begin_1 fc_5 (by decide) (by decide) bw_314 (congrArg pr e3) e1 ?_
  refine g_aload_n dX5_begin_4 rfl 1 rfl ?_
  obtain ⟨e6, K⟩ := K
  obtain ⟨q4, C5, K⟩ := K
  refine g_callV (M' := mX1_copyFrom) (b := b2) (As := [.ref a1]) (rest := []) (rc' := rc) (rs' := rs) dX5_begin_5 bw_885 bw_454 bw_455 bw_3 bw_456 ⟨by decide +kernel, by decide +kernel, show (parseMethodDescriptor mX1_copyFrom.1.desc).map (fun d => d.parameters.length) = some 1 by decide +kernel⟩ (by decide) (by decide) (Nat.le_of_ble_eq_true rfl) fc_1 (by decide) rfl e6 C5 (Nat.le_of_eq (Nat.add_zero _)) (Nat.le_of_eq (Nat.add_zero _)) (fun _ _ h => h) ?_
  rintro _ h7 ⟨rfl, K1⟩ -
  replace K := K h7 K1
  show Gm l x mX5_begin 2 8 [(0, .ref a0), (1, .ref a1)] [] h7 rc rs n0 Q X
  refine g_iconst (v := 0) dX5_begin_8 (by decide) ?_
  refine g_istore_n (lv' := [(0, .ref a0), (1, .ref a1), (2, .int 0)]) dX5_begin_9 rfl (by decide) rfl ?_
  exact K
set_option maxRecDepth 20000 in
set_option maxHeartbeats 4000000 in
theorem vX5_begin_10 {l : Launch} {x : CX} {a0 : Nat} {a1 : Nat} {x2 : Int32} {h : PH} {rc rs n0 : Nat} {Q : Option Value → PH → Prop} {X : String → PH → Prop}
    (K : ((hK h a0).1 = 5) ∧ ∃ b2, (hR h a0 2 = some b2) ∧ ((hK h b2).1 = 102) ∧ (((Int32.ofNat (hK h b2).2) ≤ x2 → Q none h) ∧ (¬ (Int32.ofNat (hK h b2).2) ≤ x2 → (vp_in x2 (hK h b2).2) ∧ Gm l x mX5_begin 2 10 [(0, .ref a0), (1, .ref a1), (2, .int (x2 + 1))] [] (sI h b2 x2.toNatClampNeg (vp_nar .boolean 0)) rc rs n0 Q X))) :
    Gm l x mX5_begin 2 10 [(0, .ref a0), (1, .ref a1), (2, .int x2)] [] h rc rs n0 Q X := by
  refine g_iload_n dX5_begin_10 rfl 2 rfl ?_
  refine g_aload_n dX5_begin_11 rfl 0 rfl ?_
  obtain ⟨e1, b2, e3, K⟩ := K
  refine g_get (c := 5) (k := 2) (v := .ref b2) dX5_begin_12 fc_5 (by decide) (by decide) bw_317 (congrArg pr e3) e1 ?_
  obtain ⟨e4, K⟩ := K
  refine g_alen (t := 2) dX5_begin_15 (by decide) e4 rfl ?_
  refine g_icmp_ge (tgt := 32) dX5_begin_16 (by decide) (fun c5 => ?_) (fun c5 => ?_)
  · replace K := K.1 c5
    exact g_vret dX5_begin_32 rfl K
  · replace K := K.2 c5
    refine g_aload_n dX5_begin_19 rfl 0 rfl ?_
    refine g_get (c := 5) (k := 2) (v := .ref b2) dX5_begin_20 fc_5 (by decide) (by decide) bw_317 (congrArg pr e3) e1 ?_
    refine g_iload_n dX5_begin_23 rfl 2 rfl ?_
    refine g_iconst (v := 0) dX5_begin_24 (by decide) ?_
    obtain ⟨e6, K⟩ := K
    refine g_zast dX5_begin_25 e4 e6 ?_
    refine g_iinc (v := (x2 + 1)) (lv' := [(0, .ref a0), (1, .ref a1), (2, .int (x2 + 1))]) dX5_begin_26 2 rfl (by rfl) (by decide) rfl ?_
    refine g_goto (tgt := 10) dX5_begin_29 (by decide) ?_
    exact K
theorem dX5_prepare_0 : decode cX5_prepare 0 = .ok (.aload_n 0, 1) := by decide +kernel
theorem dX5_prepare_1 : decode cX5_prepare 1 = .ok (.getfield 18, 3) := by decide +kernel
theorem dX5_prepare_4 : decode cX5_prepare 4 = .ok (.aload_n 0, 1) := by decide +kernel
theorem dX5_prepare_5 : decode cX5_prepare 5 = .ok (.getfield 12, 3) := by decide +kernel
theorem dX5_prepare_8 : decode cX5_prepare 8 = .ok (.invokevirtual 45, 3) := by decide +kernel
theorem dX5_prepare_11 : decode cX5_prepare 11 = .ok (.aload_n 0, 1) := by decide +kernel
theorem dX5_prepare_12 : decode cX5_prepare 12 = .ok (.getfield 18, 3) := by decide +kernel
theorem dX5_prepare_15 : decode cX5_prepare 15 = .ok (.iload_n 1, 1) := by decide +kernel
theorem dX5_prepare_16 : decode cX5_prepare 16 = .ok (.putfield 86, 3) := by decide +kernel
theorem dX5_prepare_19 : decode cX5_prepare 19 = .ok (.aload_n 0, 1) := by decide +kernel
theorem dX5_prepare_20 : decode cX5_prepare 20 = .ok (.getfield 18, 3) := by decide +kernel
theorem dX5_prepare_23 : decode cX5_prepare 23 = .ok (.iload_n 2, 1) := by decide +kernel
theorem dX5_prepare_24 : decode cX5_prepare 24 = .ok (.putfield 89, 3) := by decide +kernel
theorem dX5_prepare_27 : decode cX5_prepare 27 = .ok (.return_, 1) := by decide +kernel
set_option maxRecDepth 20000 in
set_option maxHeartbeats 4000000 in
theorem vX5_prepare_0 {l : Launch} {x : CX} {a0 : Nat} {x1 : Int32} {x2 : Int32} {h : PH} {rc rs n0 : Nat} {Q : Option Value → PH → Prop} {X : String → PH → Prop}
    (K : ((hK h a0).1 = 5) ∧ ∃ b2, (hR h a0 1 = some b2) ∧ ∃ b4, (hR h a0 0 = some b4) ∧ ((hK h b2).1 = 1) ∧ ∃ (q6 : PH → Prop), CV l x mX1_copyFrom 1 0 0 [.ref b2, .ref b4] h q6 ∧ ∀ (h9 : PH), q6 h9 → ((hK h9 a0).1 = 5) ∧ ∃ b11, (hR h9 a0 1 = some b11) ∧ ((hK h9 b11).1 = 1) ∧ Q none (sI (sI h9 b11 5 x1) b11 4 x2)) :
    Gm l x mX5_prepare 2 0 [(0, .ref a0), (1, .int x1), (2, .int x2)] [] h rc rs n0 Q X := by
  refine g_aload_n dX5_prepare_0 rfl 0 rfl ?_
  obtain ⟨e1, b2, e3, K⟩ := K
  refine g_get (c := 5) (k := 1) (v := .ref b2) dX5_prepare_1 fc_5 (by decide) (by decide) bw_316 (congrArg pr e3) e1 ?_
  refine g_aload_n dX5_prepare_4 rfl 0 rfl ?_
  obtain ⟨b4, e5, K⟩ := K
  refine g_get (c := 5) (k := 0) (v := .ref b4) dX5_prepare_5 fc_5 (by decide) (by decide) bw_314 (congrArg pr e5) e1 ?_
  obtain ⟨e8, K⟩ := K
  obtain ⟨q6, C7, K⟩ := K
  refine g_callV (M' := mX1_copyFrom) (b := b2) (As := [.ref b4]) (rest := []) (rc' := rc) (rs' := rs) dX5_prepare_8 bw_885 bw_454 bw_455 bw_3 bw_456 ⟨by decide +kernel, by decide +kernel, show (parseMethodDescriptor mX1_copyFrom.1.desc).map (fun d => d.parameters.length) = some 1 by decide +kernel⟩ (by decide) (by decide) (Nat.le_of_ble_eq_true rfl) fc_1 (by decide) rfl e8 C7 (Nat.le_of_eq (Nat.add_zero _)) (Nat.le_of_eq (Nat.add_zero _)) (fun _ _ h => h) ?_
  rintro _ h9 ⟨rfl, K1⟩ -
  replace K := K h9 K1
  show Gm l x mX5_prepare 2 11 [(0, .ref a0), (1, .int x1), (2, .int x2)] [] h9 rc rs n0 Q X
  refine g_aload_n dX5_prepare_11 rfl 0 rfl ?_
  obtain ⟨e10, b11, e12, K⟩ := K
  refine g_get (c := 5) (k := 1) (v := .ref b11) dX5_prepare_12 fc_5 (by decide) (by decide) bw_316 (congrArg pr e12) e10 ?_
  refine g_iload_n dX5_prepare_15 rfl 1 rfl ?_
  obtain ⟨e13, K⟩ := K
  refine g_puti (c := 1) (k := 5) dX5_prepare_16 fc_1 (by decide) (by decide) bw_206 (Or.inl rfl) rfl e13 ?_
  refine g_aload_n dX5_prepare_19 rfl 0 rfl ?_
  refine g_get (c := 5) (k := 1) (v := .ref b11) dX5_prepare_20 fc_5 (by decide) (by decide) bw_316 (congrArg pr (krI e12)) (kkI e10) ?_
  refine g_iload_n dX5_prepare_23 rfl 2 rfl ?_
  refine g_puti (c := 1) (k := 4) dX5_prepare_24 fc_1 (by decide) (by decide) bw_202 (Or.inl rfl) rfl (kkI e13) ?_
  exact g_vret dX5_prepare_27 rfl K
theorem dX5_init_0 : decode cX5_init 0 = .ok (.aload_n 0, 1) := by decide +kernel
theorem dX5_init_1 : decode cX5_init 1 = .ok (.invokespecial 3, 3) := by decide +kernel
theorem dX5_init_4 : decode cX5_init 4 = .ok (.aload_n 0, 1) := by decide +kernel
theorem dX5_init_5 : decode cX5_init 5 = .ok (.new 9, 3) := by decide +kernel
theorem dX5_init_8 : decode cX5_init 8 = .ok (.dup, 1) := by decide +kernel
theorem dX5_init_9 : decode cX5_init 9 = .ok (.invokespecial 11, 3) := by decide +kernel
theorem dX5_init_12 : decode cX5_init 12 = .ok (.putfield 12, 3) := by decide +kernel
theorem dX5_init_15 : decode cX5_init 15 = .ok (.aload_n 0, 1) := by decide +kernel
theorem dX5_init_16 : decode cX5_init 16 = .ok (.new 9, 3) := by decide +kernel
theorem dX5_init_19 : decode cX5_init 19 = .ok (.dup, 1) := by decide +kernel
theorem dX5_init_20 : decode cX5_init 20 = .ok (.invokespecial 11, 3) := by decide +kernel
theorem dX5_init_23 : decode cX5_init 23 = .ok (.putfield 18, 3) := by decide +kernel
theorem dX5_init_26 : decode cX5_init 26 = .ok (.aload_n 0, 1) := by decide +kernel
theorem dX5_init_27 : decode cX5_init 27 = .ok (.bipush 36, 2) := by decide +kernel
theorem dX5_init_29 : decode cX5_init 29 = .ok (.newarray .boolean, 2) := by decide +kernel
theorem dX5_init_31 : decode cX5_init 31 = .ok (.putfield 21, 3) := by decide +kernel
theorem dX5_init_34 : decode cX5_init 34 = .ok (.aload_n 0, 1) := by decide +kernel
theorem dX5_init_35 : decode cX5_init 35 = .ok (.bipush 36, 2) := by decide +kernel
theorem dX5_init_37 : decode cX5_init 37 = .ok (.newarray .int, 2) := by decide +kernel
theorem dX5_init_39 : decode cX5_init 39 = .ok (.putfield 25, 3) := by decide +kernel
theorem dX5_init_42 : decode cX5_init 42 = .ok (.aload_n 0, 1) := by decide +kernel
theorem dX5_init_43 : decode cX5_init 43 = .ok (.bipush 36, 2) := by decide +kernel
theorem dX5_init_45 : decode cX5_init 45 = .ok (.newarray .int, 2) := by decide +kernel
theorem dX5_init_47 : decode cX5_init 47 = .ok (.putfield 29, 3) := by decide +kernel
theorem dX5_init_50 : decode cX5_init 50 = .ok (.aload_n 0, 1) := by decide +kernel
theorem dX5_init_51 : decode cX5_init 51 = .ok (.bipush 36, 2) := by decide +kernel
theorem dX5_init_53 : decode cX5_init 53 = .ok (.newarray .int, 2) := by decide +kernel
theorem dX5_init_55 : decode cX5_init 55 = .ok (.putfield 32, 3) := by decide +kernel
theorem dX5_init_58 : decode cX5_init 58 = .ok (.aload_n 0, 1) := by decide +kernel
theorem dX5_init_59 : decode cX5_init 59 = .ok (.bipush 36, 2) := by decide +kernel
theorem dX5_init_61 : decode cX5_init 61 = .ok (.newarray .int, 2) := by decide +kernel
theorem dX5_init_63 : decode cX5_init 63 = .ok (.putfield 35, 3) := by decide +kernel
theorem dX5_init_66 : decode cX5_init 66 = .ok (.aload_n 0, 1) := by decide +kernel
theorem dX5_init_67 : decode cX5_init 67 = .ok (.bipush 36, 2) := by decide +kernel
theorem dX5_init_69 : decode cX5_init 69 = .ok (.newarray .float, 2) := by decide +kernel
theorem dX5_init_71 : decode cX5_init 71 = .ok (.putfield 38, 3) := by decide +kernel
theorem dX5_init_74 : decode cX5_init 74 = .ok (.aload_n 0, 1) := by decide +kernel
theorem dX5_init_75 : decode cX5_init 75 = .ok (.sipush 720, 3) := by decide +kernel
theorem dX5_init_78 : decode cX5_init 78 = .ok (.newarray .int, 2) := by decide +kernel
theorem dX5_init_80 : decode cX5_init 80 = .ok (.putfield 42, 3) := by decide +kernel
theorem dX5_init_83 : decode cX5_init 83 = .ok (.return_, 1) := by decide +kernel
set_option maxRecDepth 20000 in
set_option maxHeartbeats 4000000 in
theorem vX5_init_0 {l : Launch} {x : CX} {a0 : Nat} {h : PH} {rc rs n0 : Nat} {Q : Option Value → PH → Prop} {X : String → PH → Prop}
    (K : (1 ≤ rc) ∧ (16 ≤ rs) ∧ ∀ (h3 : PH), h3 = (nw h (1, 0)) → ∃ (mc6 ms7 : Nat) (q4 : PH → Prop), mc6 ≤ (rc - 1) ∧ ms7 ≤ (rs - 16) ∧ CV l x mX1_init 2 mc6 ms7 [.ref (hN h)] h3 q4 ∧ ∀ (h8 : PH), q4 h8 → ((hK h8 a0).1 = 5) ∧ (1 ≤ ((rc - 1) - mc6)) ∧ (16 ≤ ((rs - 16) - ms7)) ∧ ∀ (h12 : PH), h12 = (nw (sR h8 a0 0 (some (hN h))) (1, 0)) → ∃ (mc15 ms16 : Nat) (q13 : PH → Prop), mc15 ≤ (((rc - 1) - mc6) - 1) ∧ ms16 ≤ (((rs - 16) - ms7) - 16) ∧ CV l x mX1_init 2 mc15 ms16 [.ref (hN (sR h8 a0 0 (some (hN h))))] h12 q13 ∧ ∀ (h17 : PH), q13 h17 → ((hK h17 a0).1 = 5) ∧ (1 ≤ ((((rc - 1) - mc6) - 1) - mc15)) ∧ (36 ≤ ((((rs - 16) - ms7) - 16) - ms16)) ∧ ∀ (h21 : PH), h21 = (nw (sR h17 a0 1 (some (hN (sR h8 a0 0 (some (hN h)))))) (102, 36)) → ((hK h21 a0).1 = 5) ∧ (2 ≤ ((((rc - 1) - mc6) - 1) - mc15)) ∧ (72 ≤ ((((rs - 16) - ms7) - 16) - ms16)) ∧ ∀ (h25 : PH), h25 = (nw (sR h21 a0 2 (some (hN (sR h17 a0 1 (some (hN (sR h8 a0 0 (some (hN h))))))))) (100, 36)) → ((hK h25 a0).1 = 5) ∧ (3 ≤ ((((rc - 1) - mc6) - 1) - mc15)) ∧ (108 ≤ ((((rs - 16) - ms7) - 16) - ms16)) ∧ ∀ (h29 : PH), h29 = (nw (sR h25 a0 3 (some (hN (sR h21 a0 2 (some (hN (sR h17 a0 1 (some (hN (sR h8 a0 0 (some (hN h)))))))))))) (100, 36)) → ((hK h29 a0).1 = 5) ∧ (4 ≤ ((((rc - 1) - mc6) - 1) - mc15)) ∧ (144 ≤ ((((rs - 16) - ms7) - 16) - ms16)) ∧ ∀ (h33 : PH), h33 = (nw (sR h29 a0 4 (some (hN (sR h25 a0 3 (some (hN (sR h21 a0 2 (some (hN (sR h17 a0 1 (some (hN (sR h8 a0 0 (some (hN h))))))))))))))) (100, 36)) → ((hK h33 a0).1 = 5) ∧ (5 ≤ ((((rc - 1) - mc6) - 1) - mc15)) ∧ (180 ≤ ((((rs - 16) - ms7) - 16) - ms16)) ∧ ∀ (h37 : PH), h37 = (nw (sR h33 a0 5 (some (hN (sR h29 a0 4 (some (hN (sR h25 a0 3 (some (hN (sR h21 a0 2 (some (hN (sR h17 a0 1 (some (hN (sR h8 a0 0 (some (hN h)))))))))))))))))) (100, 36)) → ((hK h37 a0).1 = 5) ∧ (6 ≤ ((((rc - 1) - mc6) - 1) - mc15)) ∧ (216 ≤ ((((rs - 16) - ms7) - 16) - ms16)) ∧ ∀ (h41 : PH), h41 = (nw (sR h37 a0 6 (some (hN (sR h33 a0 5 (some (hN (sR h29 a0 4 (some (hN (sR h25 a0 3 (some (hN (sR h21 a0 2 (some (hN (sR h17 a0 1 (some (hN (sR h8 a0 0 (some (hN h))))))))))))))))))))) (103, 36)) → ((hK h41 a0).1 = 5) ∧ (7 ≤ ((((rc - 1) - mc6) - 1) - mc15)) ∧ (936 ≤ ((((rs - 16) - ms7) - 16) - ms16)) ∧ ∀ (h45 : PH), h45 = (nw (sR h41 a0 7 (some (hN (sR h37 a0 6 (some (hN (sR h33 a0 5 (some (hN (sR h29 a0 4 (some (hN (sR h25 a0 3 (some (hN (sR h21 a0 2 (some (hN (sR h17 a0 1 (some (hN (sR h8 a0 0 (some (hN h)))))))))))))))))))))))) (100, 720)) → ((hK h45 a0).1 = 5) ∧ Q none (sR h45 a0 8 (some (hN (sR h41 a0 7 (some (hN (sR h37 a0 6 (some (hN (sR h33 a0 5 (some (hN (sR h29 a0 4 (some (hN (sR h25 a0 3 (some (hN (sR h21 a0 2 (some (hN (sR h17 a0 1 (some (hN (sR h8 a0 0 (some (hN h)))))))))))))))))))))))))))) :
    Gm l x mX5_init 3 0 [(0, .ref a0)] [] h rc rs n0 Q X := by
  refine g_aload_n dX5_init_0 rfl 0 rfl ?_
  refine g_objInit dX5_init_1 bw_311 bw_30 bw_31 (by decide) (Nat.le_of_ble_eq_true rfl) ?_
  refine g_aload_n dX5_init_4 rfl 0 rfl ?_
  obtain ⟨e1, e2, K⟩ := K
  refine g_new (c := 1) (rc' := (rc - 1)) (rs' := (rs - 16)) dX5_init_5 fc_1 (by decide) (by decide) bw_312 bw_39 bw_3 (by omega) (show (rs - 16) + 16 ≤ rs by omega) ?_
  generalize e59 : (nw h (1, 0)) = h3
  replace K := K h3 e59.symm
  refine g_dup dX5_init_8 rfl ?_
  obtain ⟨mc6, ms7, q4, e57, e58, C5, K⟩ := K
  refine g_callI (M' := mX1_init) (b := (hN h)) (As := []) (rest := [.ref (hN h), .ref a0]) (rc' := ((rc - 1) - mc6)) (rs' := ((rs - 16) - ms7)) dX5_init_9 bw_313 bw_41 rfl rfl bw_3 bw_42 ⟨by decide +kernel, by decide +kernel, show (parseMethodDescriptor mX1_init.1.desc).map (fun d => d.parameters.length) = some 0 by decide +kernel⟩ (by decide) (by decide) (Nat.le_of_ble_eq_true rfl) C5 (by omega) (by omega) (fun _ _ h => h) ?_
  rintro _ h8 ⟨rfl, K1⟩ -
  replace K := K h8 K1
  show Gm l x mX5_init 3 12 [(0, .ref a0)] [.ref (hN h), .ref a0] h8 ((rc - 1) - mc6) ((rs - 16) - ms7) n0 Q X
  obtain ⟨e9, K⟩ := K
  refine g_putr (c := 5) (k := 0) dX5_init_12 fc_5 (by decide) (by decide) bw_314 (Or.inr ⟨rfl, rfl, rfl⟩) (Or.inl ⟨_, rfl⟩) e9 ?_
  refine g_aload_n dX5_init_15 rfl 0 rfl ?_
  obtain ⟨e10, e11, K⟩ := K
  refine g_new (c := 1) (rc' := (((rc - 1) - mc6) - 1)) (rs' := (((rs - 16) - ms7) - 16)) dX5_init_16 fc_1 (by decide) (by decide) bw_312 bw_39 bw_3 (by omega) (show (((rs - 16) - ms7) - 16) + 16 ≤ ((rs - 16) - ms7) by omega) ?_
  generalize e56 : (nw (sR h8 a0 0 (some (hN h))) (1, 0)) = h12
  replace K := K h12 e56.symm
  refine g_dup dX5_init_19 rfl ?_
  obtain ⟨mc15, ms16, q13, e54, e55, C14, K⟩ := K
  refine g_callI (M' := mX1_init) (b := (hN (sR h8 a0 0 (some (hN h))))) (As := []) (rest := [.ref (hN (sR h8 a0 0 (some (hN h)))), .ref a0]) (rc' := ((((rc - 1) - mc6) - 1) - mc15)) (rs' := ((((rs - 16) - ms7) - 16) - ms16)) dX5_init_20 bw_313 bw_41 rfl rfl bw_3 bw_42 ⟨by decide +kernel, by decide +kernel, show (parseMethodDescriptor mX1_init.1.desc).map (fun d => d.parameters.length) = some 0 by decide +kernel⟩ (by decide) (by decide) (Nat.le_of_ble_eq_true rfl) C14 (by omega) (by omega) (fun _ _ h => h) ?_
  rintro _ h17 ⟨rfl, K1⟩ -
  replace K := K h17 K1
  show Gm l x mX5_init 3 23 [(0, .ref a0)] [.ref (hN (sR h8 a0 0 (some (hN h)))), .ref a0] h17 ((((rc - 1) - mc6) - 1) - mc15) ((((rs - 16) - ms7) - 16) - ms16) n0 Q X
  obtain ⟨e18, K⟩ := K
  refine g_putr (c := 5) (k := 1) dX5_init_23 fc_5 (by decide) (by decide) bw_316 (Or.inr ⟨rfl, rfl, rfl⟩) (Or.inl ⟨_, rfl⟩) e18 ?_
  refine g_aload_n dX5_init_26 rfl 0 rfl ?_
  refine g_bipush (v := 36) dX5_init_27 (by decide) ?_
  obtain ⟨e19, e20, K⟩ := K
  refine g_newa (t := 2) (rc' := (((((rc - 1) - mc6) - 1) - mc15) - 1)) (rs' := (((((rs - 16) - ms7) - 16) - ms16) - 36)) (N := 36) dX5_init_29 (Or.inr (Or.inr (Or.inl ⟨rfl, rfl⟩))) bw_347 (by decide) (by decide) (by decide) (by omega) (by omega) ?_
  generalize e53 : (nw (sR h17 a0 1 (some (hN (sR h8 a0 0 (some (hN h)))))) (102, 36)) = h21
  replace K := K h21 e53.symm
  obtain ⟨e22, K⟩ := K
  refine g_putr (c := 5) (k := 2) dX5_init_31 fc_5 (by decide) (by decide) bw_317 (Or.inr ⟨rfl, rfl, rfl⟩) (Or.inr ⟨_, rfl⟩) e22 ?_
  refine g_aload_n dX5_init_34 rfl 0 rfl ?_
  refine g_bipush (v := 36) dX5_init_35 (by decide) ?_
  obtain ⟨e23, e24, K⟩ := K
  refine g_newa (t := 0) (rc' := (((((rc - 1) - mc6) - 1) - mc15) - 2)) (rs' := (((((rs - 16) - ms7) - 16) - ms16) - 72)) (N := 36) dX5_init_37 (Or.inl ⟨rfl, rfl⟩) bw_348 (by decide) (by decide) (by decide) (by omega) (by omega) ?_
  generalize e52 : (nw (sR h21 a0 2 (some (hN (sR h17 a0 1 (some (hN (sR h8 a0 0 (some (hN h))))))))) (100, 36)) = h25
  replace K := K h25 e52.symm
  obtain ⟨e26, K⟩ := K
  refine g_putr (c := 5) (k := 3) dX5_init_39 fc_5 (by decide) (by decide) bw_318 (Or.inr ⟨rfl, rfl, rfl⟩) (Or.inr ⟨_, rfl⟩) e26 ?_
  refine g_aload_n dX5_init_42 rfl 0 rfl ?_
  refine g_bipush (v := 36) dX5_init_43 (by decide) ?_
  obtain ⟨e27, e28, K⟩ := K
  refine g_newa (t := 0) (rc' := (((((rc - 1) - mc6) - 1) - mc15) - 3)) (rs' := (((((rs - 16) - ms7) - 16) - ms16) - 108)) (N := 36) dX5_init_45 (Or.inl ⟨rfl, rfl⟩) bw_348 (by decide) (by decide) (by decide) (by omega) (by omega) ?_
  generalize e51 : (nw (sR h25 a0 3 (some (hN (sR h21 a0 2 (some (hN (sR h17 a0 1 (some (hN (sR h8 a0 0 (some (hN h)))))))))))) (100, 36)) = h29
  replace K := K h29 e51.symm
  obtain ⟨e30, K⟩ := K
  refine g_putr (c := 5) (k := 4) dX5_init_47 fc_5 (by decide) (by decide) bw_320 (Or.inr ⟨rfl, rfl, rfl⟩) (Or.inr ⟨_, rfl⟩) e30 ?_
  refine g_aload_n dX5_init_50 rfl 0 rfl ?_
  refine g_bipush (v := 36) dX5_init_51 (by decide) ?_
  obtain ⟨e31, e32, K⟩ := K
  refine g_newa (t := 0) (rc' := (((((rc - 1) - mc6) - 1) - mc15) - 4)) (rs' := (((((rs - 16) - ms7) - 16) - ms16) - 144)) (N := 36) dX5_init_53 (Or.inl ⟨rfl, rfl⟩) bw_348 (by decide) (by decide) (by decide) (by omega) (by omega) ?_
  generalize e50 : (nw (sR h29 a0 4 (some (hN (sR h25 a0 3 (some (hN (sR h21 a0 2 (some (hN (sR h17 a0 1 (some (hN (sR h8 a0 0 (some (hN h))))))))))))))) (100, 36)) = h33
  replace K := K h33 e50.symm
  obtain ⟨e34, K⟩ := K
  refine g_putr (c := 5) (k := 5) dX5_init_55 fc_5 (by decide) (by decide) bw_322 (Or.inr ⟨rfl, rfl, rfl⟩) (Or.inr ⟨_, rfl⟩) e34 ?_
  refine g_aload_n dX5_init_58 rfl 0 rfl ?_
  refine g_bipush (v := 36) dX5_init_59 (by decide) ?_
  obtain ⟨e35, e36, K⟩ := K
  refine g_newa (t := 0) (rc' := (((((rc - 1) - mc6) - 1) - mc15) - 5)) (rs' := (((((rs - 16) - ms7) - 16) - ms16) - 180)) (N := 36) dX5_init_61 (Or.inl ⟨rfl, rfl⟩) bw_348 (by decide) (by decide) (by decide) (by omega) (by omega) ?_
  generalize e49 : (nw (sR h33 a0 5 (some (hN (sR h29 a0 4 (some (hN (sR h25 a0 3 (some (hN (sR h21 a0 2 (some (hN (sR h17 a0 1 (some (hN (sR h8 a0 0 (some (hN h)))))))))))))))))) (100, 36)) = h37
  replace K := K h37 e49.symm
  obtain ⟨e38, K⟩ := K
  refine g_putr (c := 5) (k := 6) dX5_init_63 fc_5 (by decide) (by decide) bw_324 (Or.inr ⟨rfl, rfl, rfl⟩) (Or.inr ⟨_, rfl⟩) e38 ?_
  refine g_aload_n dX5_init_66 rfl 0 rfl ?_
  refine g_bipush (v := 36) dX5_init_67 (by decide) ?_
  obtain ⟨e39, e40, K⟩ := K
  refine g_newa (t := 3) (rc' := (((((rc - 1) - mc6) - 1) - mc15) - 6)) (rs' := (((((rs - 16) - ms7) - 16) - ms16) - 216)) (N := 36) dX5_init_69 (Or.inr (Or.inr (Or.inr (Or.inl ⟨rfl, rfl⟩)))) bw_349 (by decide) (by decide) (by decide) (by omega) (by omega) ?_
  generalize e48 : (nw (sR h37 a0 6 (some (hN (sR h33 a0 5 (some (hN (sR h29 a0 4 (some (hN (sR h25 a0 3 (some (hN (sR h21 a0 2 (some (hN (sR h17 a0 1 (some (hN (sR h8 a0 0 (some (hN h))))))))))))))))))))) (103, 36)) = h41
  replace K := K h41 e48.symm
  obtain ⟨e42, K⟩ := K
  refine g_putr (c := 5) (k := 7) dX5_init_71 fc_5 (by decide) (by decide) bw_326 (Or.inr ⟨rfl, rfl, rfl⟩) (Or.inr ⟨_, rfl⟩) e42 ?_
  refine g_aload_n dX5_init_74 rfl 0 rfl ?_
  refine g_sipush (v := 720) dX5_init_75 (by decide) ?_
  obtain ⟨e43, e44, K⟩ := K
  refine g_newa (t := 0) (rc' := (((((rc - 1) - mc6) - 1) - mc15) - 7)) (rs' := (((((rs - 16) - ms7) - 16) - ms16) - 936)) (N := 720) dX5_init_78 (Or.inl ⟨rfl, rfl⟩) bw_348 (by decide) (by decide) (by decide) (by omega) (by omega) ?_
  generalize e47 : (nw (sR h41 a0 7 (some (hN (sR h37 a0 6 (some (hN (sR h33 a0 5 (some (hN (sR h29 a0 4 (some (hN (sR h25 a0 3 (some (hN (sR h21 a0 2 (some (hN (sR h17 a0 1 (some (hN (sR h8 a0 0 (some (hN h)))))))))))))))))))))))) (100, 720)) = h45
  replace K := K h45 e47.symm
  obtain ⟨e46, K⟩ := K
  refine g_putr (c := 5) (k := 8) dX5_init_80 fc_5 (by decide) (by decide) bw_327 (Or.inr ⟨rfl, rfl, rfl⟩) (Or.inr ⟨_, rfl⟩) e46 ?_
  exact g_vret dX5_init_83 rfl K
theorem dX5_run_0 : decode cX5_run 0 = .ok (.bipush 12, 2) := by decide +kernel
theorem dX5_run_2 : decode cX5_run 2 = .ok (.iload_n 1, 1) := by decide +kernel
theorem dX5_run_3 : decode cX5_run 3 = .ok (.imul, 1) := by decide +kernel
theorem dX5_run_4 : decode cX5_run 4 = .ok (.iload_n 2, 1) := by decide +kernel
theorem dX5_run_5 : decode cX5_run 5 = .ok (.iadd, 1) := by decide +kernel
theorem dX5_run_6 : decode cX5_run 6 = .ok (.istore_n 3, 1) := by decide +kernel
theorem dX5_run_7 : decode cX5_run 7 = .ok (.aload_n 0, 1) := by decide +kernel
theorem dX5_run_8 : decode cX5_run 8 = .ok (.getfield 21, 3) := by decide +kernel
theorem dX5_run_11 : decode cX5_run 11 = .ok (.iload_n 3, 1) := by decide +kernel
theorem dX5_run_12 : decode cX5_run 12 = .ok (.baload, 1) := by decide +kernel
theorem dX5_run_13 : decode cX5_run 13 = .ok (.ifCond .eq 5, 3) := by decide +kernel
theorem dX5_run_16 : decode cX5_run 16 = .ok (.iload_n 3, 1) := by decide +kernel
theorem dX5_run_17 : decode cX5_run 17 = .ok (.ireturn, 1) := by decide +kernel
theorem dX5_run_18 : decode cX5_run 18 = .ok (.aload_n 0, 1) := by decide +kernel
theorem dX5_run_19 : decode cX5_run 19 = .ok (.iload_n 1, 1) := by decide +kernel
theorem dX5_run_20 : decode cX5_run 20 = .ok (.iload_n 2, 1) := by decide +kernel
theorem dX5_run_21 : decode cX5_run 21 = .ok (.invokevirtual 49, 3) := by decide +kernel
theorem dX5_run_24 : decode cX5_run 24 = .ok (.aload_n 0, 1) := by decide +kernel
theorem dX5_run_25 : decode cX5_run 25 = .ok (.getfield 18, 3) := by decide +kernel
theorem dX5_run_28 : decode cX5_run 28 = .ok (.sipush 200, 3) := by decide +kernel
theorem dX5_run_31 : decode cX5_run 31 = .ok (.invokevirtual 53, 3) := by decide +kernel
theorem dX5_run_34 : decode cX5_run 34 = .ok (.aload_n 0, 1) := by decide +kernel
theorem dX5_run_35 : decode cX5_run 35 = .ok (.getfield 21, 3) := by decide +kernel
theorem dX5_run_38 : decode cX5_run 38 = .ok (.iload_n 3, 1) := by decide +kernel
theorem dX5_run_39 : decode cX5_run 39 = .ok (.iconst 1, 1) := by decide +kernel
theorem dX5_run_40 : decode cX5_run 40 = .ok (.bastore, 1) := by decide +kernel
theorem dX5_run_41 : decode cX5_run 41 = .ok (.aload_n 0, 1) := by decide +kernel
theorem dX5_run_42 : decode cX5_run 42 = .ok (.getfield 25, 3) := by decide +kernel
theorem dX5_run_45 : decode cX5_run 45 = .ok (.iload_n 3, 1) := by decide +kernel
theorem dX5_run_46 : decode cX5_run 46 = .ok (.aload_n 0, 1) := by decide +kernel
theorem dX5_run_47 : decode cX5_run 47 = .ok (.getfield 18, 3) := by decide +kernel
theorem dX5_run_50 : decode cX5_run 50 = .ok (.invokevirtual 57, 3) := by decide +kernel
theorem dX5_run_53 : decode cX5_run 53 = .ok (.iastore, 1) := by decide +kernel
theorem dX5_run_54 : decode cX5_run 54 = .ok (.aload_n 0, 1) := by decide +kernel
theorem dX5_run_55 : decode cX5_run 55 = .ok (.getfield 29, 3) := by decide +kernel
theorem dX5_run_58 : decode cX5_run 58 = .ok (.iload_n 3, 1) := by decide +kernel
theorem dX5_run_59 : decode cX5_run 59 = .ok (.aload_n 0, 1) := by decide +kernel
theorem dX5_run_60 : decode cX5_run 60 = .ok (.getfield 18, 3) := by decide +kernel
theorem dX5_run_63 : decode cX5_run 63 = .ok (.getfield 61, 3) := by decide +kernel
theorem dX5_run_66 : decode cX5_run 66 = .ok (.iastore, 1) := by decide +kernel
theorem dX5_run_67 : decode cX5_run 67 = .ok (.aload_n 0, 1) := by decide +kernel
theorem dX5_run_68 : decode cX5_run 68 = .ok (.getfield 32, 3) := by decide +kernel
theorem dX5_run_71 : decode cX5_run 71 = .ok (.iload_n 3, 1) := by decide +kernel
theorem dX5_run_72 : decode cX5_run 72 = .ok (.aload_n 0, 1) := by decide +kernel
theorem dX5_run_73 : decode cX5_run 73 = .ok (.getfield 18, 3) := by decide +kernel
theorem dX5_run_76 : decode cX5_run 76 = .ok (.invokevirtual 65, 3) := by decide +kernel
theorem dX5_run_79 : decode cX5_run 79 = .ok (.iastore, 1) := by decide +kernel
theorem dX5_run_80 : decode cX5_run 80 = .ok (.aload_n 0, 1) := by decide +kernel
theorem dX5_run_81 : decode cX5_run 81 = .ok (.getfield 35, 3) := by decide +kernel
theorem dX5_run_84 : decode cX5_run 84 = .ok (.iload_n 3, 1) := by decide +kernel
theorem dX5_run_85 : decode cX5_run 85 = .ok (.aload_n 0, 1) := by decide +kernel
theorem dX5_run_86 : decode cX5_run 86 = .ok (.getfield 18, 3) := by decide +kernel
theorem dX5_run_89 : decode cX5_run 89 = .ok (.invokevirtual 68, 3) := by decide +kernel
theorem dX5_run_92 : decode cX5_run 92 = .ok (.iastore, 1) := by decide +kernel
theorem dX5_run_93 : decode cX5_run 93 = .ok (.aload_n 0, 1) := by decide +kernel
theorem dX5_run_94 : decode cX5_run 94 = .ok (.getfield 38, 3) := by decide +kernel
theorem dX5_run_97 : decode cX5_run 97 = .ok (.iload_n 3, 1) := by decide +kernel
theorem dX5_run_98 : decode cX5_run 98 = .ok (.aload_n 0, 1) := by decide +kernel
theorem dX5_run_99 : decode cX5_run 99 = .ok (.getfield 18, 3) := by decide +kernel
theorem dX5_run_102 : decode cX5_run 102 = .ok (.invokevirtual 71, 3) := by decide +kernel
theorem dX5_run_105 : decode cX5_run 105 = .ok (.fastore, 1) := by decide +kernel
theorem dX5_run_106 : decode cX5_run 106 = .ok (.iconst 0, 1) := by decide +kernel
theorem dX5_run_107 : decode cX5_run 107 = .ok (.istore 4, 2) := by decide +kernel
theorem dX5_run_109 : decode cX5_run 109 = .ok (.iload 4, 2) := by decide +kernel
theorem dX5_run_111 : decode cX5_run 111 = .ok (.aload_n 0, 1) := by decide +kernel
theorem dX5_run_112 : decode cX5_run 112 = .ok (.getfield 18, 3) := by decide +kernel
theorem dX5_run_115 : decode cX5_run 115 = .ok (.getfield 75, 3) := by decide +kernel
theorem dX5_run_118 : decode cX5_run 118 = .ok (.if_icmp .ge 41, 3) := by decide +kernel
theorem dX5_run_121 : decode cX5_run 121 = .ok (.iload 4, 2) := by decide +kernel
theorem dX5_run_123 : decode cX5_run 123 = .ok (.bipush 20, 2) := by decide +kernel
theorem dX5_run_125 : decode cX5_run 125 = .ok (.if_icmp .ge 34, 3) := by decide +kernel
theorem dX5_run_128 : decode cX5_run 128 = .ok (.aload_n 0, 1) := by decide +kernel
theorem dX5_run_129 : decode cX5_run 129 = .ok (.getfield 42, 3) := by decide +kernel
theorem dX5_run_132 : decode cX5_run 132 = .ok (.bipush 20, 2) := by decide +kernel
theorem dX5_run_134 : decode cX5_run 134 = .ok (.iload_n 3, 1) := by decide +kernel
theorem dX5_run_135 : decode cX5_run 135 = .ok (.imul, 1) := by decide +kernel
theorem dX5_run_136 : decode cX5_run 136 = .ok (.iload 4, 2) := by decide +kernel
theorem dX5_run_138 : decode cX5_run 138 = .ok (.iadd, 1) := by decide +kernel
theorem dX5_run_139 : decode cX5_run 139 = .ok (.aload_n 0, 1) := by decide +kernel
theorem dX5_run_140 : decode cX5_run 140 = .ok (.getfield 18, 3) := by decide +kernel
theorem dX5_run_143 : decode cX5_run 143 = .ok (.getfield 78, 3) := by decide +kernel
theorem dX5_run_146 : decode cX5_run 146 = .ok (.iload 4, 2) := by decide +kernel
theorem dX5_run_148 : decode cX5_run 148 = .ok (.aaload, 1) := by decide +kernel
theorem dX5_run_149 : decode cX5_run 149 = .ok (.getfield 82, 3) := by decide +kernel
theorem dX5_run_152 : decode cX5_run 152 = .ok (.iastore, 1) := by decide +kernel
theorem dX5_run_153 : decode cX5_run 153 = .ok (.iinc 4 1, 3) := by decide +kernel
theorem dX5_run_156 : decode cX5_run 156 = .ok (.goto (-47), 3) := by decide +kernel
theorem dX5_run_159 : decode cX5_run 159 = .ok (.iload_n 3, 1) := by decide +kernel
theorem dX5_run_160 : decode cX5_run 160 = .ok (.ireturn, 1) := by decide +kernel
set_option maxRecDepth 20000 in
set_option maxHeartbeats 4000000 in
theorem vX5_run_0 {l : Launch} {x : CX} {a0 : Nat} {x1 : Int32} {x2 : Int32} {h : PH} {rc rs n0 : Nat} {Q : Option Value → PH → Prop} {X : String → PH → Prop}
    (K : ((hK h a0).1 = 5) ∧ ∃ b2, (hR h a0 2 = some b2) ∧ ((hK h b2).1 = 102) ∧ (vp_in ((12 * x1) + x2) (hK h b2).2) ∧ (((hI h b2 ((12 * x1) + x2).toNatClampNeg) = 0 → ∃ (q7 : PH → Prop), CV l x mX5_prepare 2 0 0 [.ref a0, .int x1, .int x2] h q7 ∧ ∀ (h9 : PH), q7 h9 → ((hK h9 a0).1 = 5) ∧ ∃ b11, (hR h9 a0 1 = some b11) ∧ ((hK h9 b11).1 = 1) ∧ ∃ (q13 : PH → Prop), CV l x mX1_pass 4 0 0 [.ref b11, .int 200] h9 q13 ∧ ∀ (h16 : PH), q13 h16 → ((hK h16 a0).1 = 5) ∧ ∃ b18, (hR h16 a0 2 = some b18) ∧ ((hK h16 b18).1 = 102) ∧ (vp_in ((12 * x1) + x2) (hK h16 b18).2) ∧ ∃ b22, (hR h16 a0 3 = some b22) ∧ ∃ b24, (hR h16 a0 1 = some b24) ∧ ((hK h16 b24).1 = 1) ∧ ∃ (q26 : Int32 → PH → Prop), CI l x mX1_waitedInAll 0 0 0 [.ref b24] (sI h16 b18 ((12 * x1) + x2).toNatClampNeg (vp_nar .boolean 1)) q26 ∧ ∀ (r30 : Int32) (h29 : PH), q26 r30 h29 → ((hK h29 b22).1 = 100) ∧ (vp_in ((12 * x1) + x2) (hK h29 b22).2) ∧ ((hK h29 a0).1 = 5) ∧ ∃ b34, (hR h29 a0 4 = some b34) ∧ ∃ b36, (hR h29 a0 1 = some b36) ∧ ((hK h29 b36).1 = 1) ∧ ((hK h29 b34).1 = 100) ∧ (vp_in ((12 * x1) + x2) (hK h29 b34).2) ∧ ∃ b41, (hR h29 a0 5 = some b41) ∧ ∃ (q43 : Int32 → PH → Prop), CI l x mX1_latestDone 1 0 0 [.ref b36] (sI (sI h29 b22 ((12 * x1) + x2).toNatClampNeg r30) b34 ((12 * x1) + x2).toNatClampNeg (hI (sI h29 b22 ((12 * x1) + x2).toNatClampNeg r30) b36 12)) q43 ∧ ∀ (r46 : Int32) (h45 : PH), q43 r46 h45 → ((hK h45 b41).1 = 100) ∧ (vp_in ((12 * x1) + x2) (hK h45 b41).2) ∧ ((hK h45 a0).1 = 5) ∧ ∃ b50, (hR h45 a0 6 = some b50) ∧ ∃ b52, (hR h45 a0 1 = some b52) ∧ ((hK h45 b52).1 = 1) ∧ ∃ (q54 : Int32 → PH → Prop), CI l x mX1_passedInAll 0 0 0 [.ref b52] (sI h45 b41 ((12 * x1) + x2).toNatClampNeg r46) q54 ∧ ∀ (r58 : Int32) (h57 : PH), q54 r58 h57 → ((hK h57 b50).1 = 100) ∧ (vp_in ((12 * x1) + x2) (hK h57 b50).2) ∧ ((hK h57 a0).1 = 5) ∧ ∃ b62, (hR h57 a0 7 = some b62) ∧ ∃ b64, (hR h57 a0 1 = some b64) ∧ ((hK h57 b64).1 = 1) ∧ ∃ (q66 : UInt32 → PH → Prop), CF l x mX1_workInAll 0 0 0 [.ref b64] (sI h57 b50 ((12 * x1) + x2).toNatClampNeg r58) q66 ∧ ∀ (r70 : UInt32) (h69 : PH), q66 r70 h69 → ((hK h69 b62).1 = 103) ∧ (vp_in ((12 * x1) + x2) (hK h69 b62).2) ∧ Gm l x mX5_run 5 109 [(0, .ref a0), (1, .int x1), (2, .int x2), (3, .int ((12 * x1) + x2)), (4, .int 0)] [] (sF h69 b62 ((12 * x1) + x2).toNatClampNeg r70) rc rs n0 Q X) ∧ (¬ (hI h b2 ((12 * x1) + x2).toNatClampNeg) = 0 → Q (some (.int ((12 * x1) + x2))) h))) :
    Gm l x mX5_run 5 0 [(0, .ref a0), (1, .int x1), (2, .int x2)] [] h rc rs n0 Q X := by
  refine g_bipush (v := 12) dX5_run_0 (by decide) ?_
  refine g_iload_n dX5_run_2 rfl 1 rfl ?_
  refine g_imul dX5_run_3 ?_
  refine g_iload_n dX5_run_4 rfl 2 rfl ?_
  refine g_iadd dX5_run_5 ?_
  refine g_istore_n (lv' := [(0, .ref a0), (1, .int x1), (2, .int x2), (3, .int ((12 * x1) + x2))]) dX5_run_6 rfl (by decide) rfl ?_
  refine g_aload_n dX5_run_7 rfl 0 rfl ?_
  obtain ⟨e1, b2, e3, K⟩ := K
  refine g_get (c := 5) (k := 2) (v := .ref b2) dX5_run_8 fc_5 (by decide) (by decide) bw_317 (congrArg pr e3) e1 ?_
  refine g_iload_n dX5_run_11 rfl 3 rfl ?_
  obtain ⟨e4, e5, K⟩ := K
  refine g_zald dX5_run_12 e4 e5 ?_
  refine g_if_eq (tgt := 18) dX5_run_13 (by decide) (fun c6 => ?_) (fun c6 => ?_)
  · replace K := K.1 c6
    refine g_aload_n dX5_run_18 rfl 0 rfl ?_
    refine g_iload_n dX5_run_19 rfl 1 rfl ?_
    refine g_iload_n dX5_run_20 rfl 2 rfl ?_
    obtain ⟨q7, C8, K⟩ := K
    refine g_callV (M' := mX5_prepare) (b := a0) (As := [.int x1, .int x2]) (rest := []) (rc' := rc) (rs' := rs) dX5_run_21 bw_933 bw_935 bs_31 bw_6 bw_936 ⟨by decide +kernel, by decide +kernel, show (parseMethodDescriptor mX5_prepare.1.desc).map (fun d => d.parameters.length) = some 2 by decide +kernel⟩ (by decide) (by decide) (Nat.le_of_ble_eq_true rfl) fc_5 (by decide) rfl e1 C8 (Nat.le_of_eq (Nat.add_zero _)) (Nat.le_of_eq (Nat.add_zero _)) (fun _ _ h => h) ?_
    rintro _ h9 ⟨rfl, K1⟩ -
    replace K := K h9 K1
    show Gm l x mX5_run 5 24 [(0, .ref a0), (1, .int x1), (2, .int x2), (3, .int ((12 * x1) + x2))] [] h9 rc rs n0 Q X
    refine g_aload_n dX5_run_24 rfl 0 rfl ?_
    obtain ⟨e10, b11, e12, K⟩ := K
    refine g_get (c := 5) (k := 1) (v := .ref b11) dX5_run_25 fc_5 (by decide) (by decide) bw_316 (congrArg pr e12) e10 ?_
    refine g_sipush (v := 200) dX5_run_28 (by decide) ?_
    obtain ⟨e15, K⟩ := K
    obtain ⟨q13, C14, K⟩ := K
    refine g_callV (M' := mX1_pass) (b := b11) (As := [.int 200]) (rest := []) (rc' := rc) (rs' := rs) dX5_run_31 bw_937 bw_466 bw_467 bw_3 bw_468 ⟨by decide +kernel, by decide +kernel, show (parseMethodDescriptor mX1_pass.1.desc).map (fun d => d.parameters.length) = some 1 by decide +kernel⟩ (by decide) (by decide) (Nat.le_of_ble_eq_true rfl) fc_1 (by decide) rfl e15 C14 (Nat.le_of_eq (Nat.add_zero _)) (Nat.le_of_eq (Nat.add_zero _)) (fun _ _ h => h) ?_
    rintro _ h16 ⟨rfl, K1⟩ -
    replace K := K h16 K1
    show Gm l x mX5_run 5 34 [(0, .ref a0), (1, .int x1), (2, .int x2), (3, .int ((12 * x1) + x2))] [] h16 rc rs n0 Q X
    refine g_aload_n dX5_run_34 rfl 0 rfl ?_
    obtain ⟨e17, b18, e19, K⟩ := K
    refine g_get (c := 5) (k := 2) (v := .ref b18) dX5_run_35 fc_5 (by decide) (by decide) bw_317 (congrArg pr e19) e17 ?_
    refine g_iload_n dX5_run_38 rfl 3 rfl ?_
    refine g_iconst (v := 1) dX5_run_39 (by decide) ?_
    obtain ⟨e20, e21, K⟩ := K
    refine g_zast dX5_run_40 e20 e21 ?_
    refine g_aload_n dX5_run_41 rfl 0 rfl ?_
    obtain ⟨b22, e23, K⟩ := K
    refine g_get (c := 5) (k := 3) (v := .ref b22) dX5_run_42 fc_5 (by decide) (by decide) bw_318 (congrArg pr (krI e23)) (kkI e17) ?_
    refine g_iload_n dX5_run_45 rfl 3 rfl ?_
    refine g_aload_n dX5_run_46 rfl 0 rfl ?_
    obtain ⟨b24, e25, K⟩ := K
    refine g_get (c := 5) (k := 1) (v := .ref b24) dX5_run_47 fc_5 (by decide) (by decide) bw_316 (congrArg pr (krI e25)) (kkI e17) ?_
    obtain ⟨e28, K⟩ := K
    obtain ⟨q26, C27, K⟩ := K
    refine g_callV (M' := mX1_waitedInAll) (b := b24) (As := []) (rest := [.int ((12 * x1) + x2), .ref b22]) (rc' := rc) (rs' := rs) dX5_run_50 bw_938 bw_918 bw_919 bw_3 bw_920 ⟨by decide +kernel, by decide +kernel, show (parseMethodDescriptor mX1_waitedInAll.1.desc).map (fun d => d.parameters.length) = some 0 by decide +kernel⟩ (by decide) (by decide) (Nat.le_of_ble_eq_true rfl) fc_1 (by decide) rfl (kkI e28) C27 (Nat.le_of_eq (Nat.add_zero _)) (Nat.le_of_eq (Nat.add_zero _)) (fun _ _ h => h) ?_
    rintro _ h29 ⟨r30, rfl, K1⟩ -
    replace K := K r30 h29 K1
    show Gm l x mX5_run 5 53 [(0, .ref a0), (1, .int x1), (2, .int x2), (3, .int ((12 * x1) + x2))] [.int r30, .int ((12 * x1) + x2), .ref b22] h29 rc rs n0 Q X
    obtain ⟨e31, e32, K⟩ := K
    refine g_iast dX5_run_53 e31 e32 ?_
    refine g_aload_n dX5_run_54 rfl 0 rfl ?_
    obtain ⟨e33, b34, e35, K⟩ := K
    refine g_get (c := 5) (k := 4) (v := .ref b34) dX5_run_55 fc_5 (by decide) (by decide) bw_320 (congrArg pr (krI e35)) (kkI e33) ?_
    refine g_iload_n dX5_run_58 rfl 3 rfl ?_
    refine g_aload_n dX5_run_59 rfl 0 rfl ?_
    obtain ⟨b36, e37, K⟩ := K
    refine g_get (c := 5) (k := 1) (v := .ref b36) dX5_run_60 fc_5 (by decide) (by decide) bw_316 (congrArg pr (krI e37)) (kkI e33) ?_
    obtain ⟨e38, K⟩ := K
    refine g_get (c := 1) (k := 12) (v := .int (hI (sI h29 b22 ((12 * x1) + x2).toNatClampNeg r30) b36 12)) dX5_run_63 fc_1 (by decide) (by decide) bw_221 rfl (kkI e38) ?_
    obtain ⟨e39, e40, K⟩ := K
    refine g_iast dX5_run_66 (kkI e39) (kvI e40) ?_
    refine g_aload_n dX5_run_67 rfl 0 rfl ?_
    obtain ⟨b41, e42, K⟩ := K
    refine g_get (c := 5) (k := 5) (v := .ref b41) dX5_run_68 fc_5 (by decide) (by decide) bw_322 (congrArg pr (krI (krI e42))) (kkI (kkI e33)) ?_
    refine g_iload_n dX5_run_71 rfl 3 rfl ?_
    refine g_aload_n dX5_run_72 rfl 0 rfl ?_
    refine g_get (c := 5) (k := 1) (v := .ref b36) dX5_run_73 fc_5 (by decide) (by decide) bw_316 (congrArg pr (krI (krI e37))) (kkI (kkI e33)) ?_
    obtain ⟨q43, C44, K⟩ := K
    refine g_callV (M' := mX1_latestDone) (b := b36) (As := []) (rest := [.int ((12 * x1) + x2), .ref b41]) (rc' := rc) (rs' := rs) dX5_run_76 bw_939 bw_940 bw_941 bw_3 bw_942 ⟨by decide +kernel, by decide +kernel, show (parseMethodDescriptor mX1_latestDone.1.desc).map (fun d => d.parameters.length) = some 0 by decide +kernel⟩ (by decide) (by decide) (Nat.le_of_ble_eq_true rfl) fc_1 (by decide) rfl (kkI (kkI e38)) C44 (Nat.le_of_eq (Nat.add_zero _)) (Nat.le_of_eq (Nat.add_zero _)) (fun _ _ h => h) ?_
    rintro _ h45 ⟨r46, rfl, K1⟩ -
    replace K := K r46 h45 K1
    show Gm l x mX5_run 5 79 [(0, .ref a0), (1, .int x1), (2, .int x2), (3, .int ((12 * x1) + x2))] [.int r46, .int ((12 * x1) + x2), .ref b41] h45 rc rs n0 Q X
    obtain ⟨e47, e48, K⟩ := K
    refine g_iast dX5_run_79 e47 e48 ?_
    refine g_aload_n dX5_run_80 rfl 0 rfl ?_
    obtain ⟨e49, b50, e51, K⟩ := K
    refine g_get (c := 5) (k := 6) (v := .ref b50) dX5_run_81 fc_5 (by decide) (by decide) bw_324 (congrArg pr (krI e51)) (kkI e49) ?_
    refine g_iload_n dX5_run_84 rfl 3 rfl ?_
    refine g_aload_n dX5_run_85 rfl 0 rfl ?_
    obtain ⟨b52, e53, K⟩ := K
    refine g_get (c := 5) (k := 1) (v := .ref b52) dX5_run_86 fc_5 (by decide) (by decide) bw_316 (congrArg pr (krI e53)) (kkI e49) ?_
    obtain ⟨e56, K⟩ := K
    obtain ⟨q54, C55, K⟩ := K
    refine g_callV (M' := mX1_passedInAll) (b := b52) (As := []) (rest := [.int ((12 * x1) + x2), .ref b50]) (rc' := rc) (rs' := rs) dX5_run_89 bw_946 bw_914 bw_915 bw_3 bw_916 ⟨by decide +kernel, by decide +kernel, show (parseMethodDescriptor mX1_passedInAll.1.desc).map (fun d => d.parameters.length) = some 0 by decide +kernel⟩ (by decide) (by decide) (Nat.le_of_ble_eq_true rfl) fc_1 (by decide) rfl (kkI e56) C55 (Nat.le_of_eq (Nat.add_zero _)) (Nat.le_of_eq (Nat.add_zero _)) (fun _ _ h => h) ?_
    rintro _ h57 ⟨r58, rfl, K1⟩ -
    replace K := K r58 h57 K1
    show Gm l x mX5_run 5 92 [(0, .ref a0), (1, .int x1), (2, .int x2), (3, .int ((12 * x1) + x2))] [.int r58, .int ((12 * x1) + x2), .ref b50] h57 rc rs n0 Q X
    obtain ⟨e59, e60, K⟩ := K
    refine g_iast dX5_run_92 e59 e60 ?_
    refine g_aload_n dX5_run_93 rfl 0 rfl ?_
    obtain ⟨e61, b62, e63, K⟩ := K
    refine g_get (c := 5) (k := 7) (v := .ref b62) dX5_run_94 fc_5 (by decide) (by decide) bw_326 (congrArg pr (krI e63)) (kkI e61) ?_
    refine g_iload_n dX5_run_97 rfl 3 rfl ?_
    refine g_aload_n dX5_run_98 rfl 0 rfl ?_
    obtain ⟨b64, e65, K⟩ := K
    refine g_get (c := 5) (k := 1) (v := .ref b64) dX5_run_99 fc_5 (by decide) (by decide) bw_316 (congrArg pr (krI e65)) (kkI e61) ?_
    obtain ⟨e68, K⟩ := K
    obtain ⟨q66, C67, K⟩ := K
    refine g_callV (M' := mX1_workInAll) (b := b64) (As := []) (rest := [.int ((12 * x1) + x2), .ref b62]) (rc' := rc) (rs' := rs) dX5_run_102 bw_947 bw_948 bw_949 bw_3 bw_950 ⟨by decide +kernel, by decide +kernel, show (parseMethodDescriptor mX1_workInAll.1.desc).map (fun d => d.parameters.length) = some 0 by decide +kernel⟩ (by decide) (by decide) (Nat.le_of_ble_eq_true rfl) fc_1 (by decide) rfl (kkI e68) C67 (Nat.le_of_eq (Nat.add_zero _)) (Nat.le_of_eq (Nat.add_zero _)) (fun _ _ h => h) ?_
    rintro _ h69 ⟨r70, rfl, K1⟩ -
    replace K := K r70 h69 K1
    show Gm l x mX5_run 5 105 [(0, .ref a0), (1, .int x1), (2, .int x2), (3, .int ((12 * x1) + x2))] [.float r70, .int ((12 * x1) + x2), .ref b62] h69 rc rs n0 Q X
    obtain ⟨e71, e72, K⟩ := K
    refine g_fast dX5_run_105 e71 e72 ?_
    refine g_iconst (v := 0) dX5_run_106 (by decide) ?_
    refine g_istore (lv' := [(0, .ref a0), (1, .int x1), (2, .int x2), (3, .int ((12 * x1) + x2)), (4, .int 0)]) dX5_run_107 (by decide) rfl ?_
    exact K
  · replace K := K.2 c6
    refine g_iload_n dX5_run_16 rfl 3 rfl ?_
    exact g_iret dX5_run_17 rfl K
set_option maxRecDepth 20000 in
set_option maxHeartbeats 4000000 in
theorem vX5_run_109 {l : Launch} {x : CX} {a0 : Nat} {x1 : Int32} {x2 : Int32} {x3 : Int32} {x4 : Int32} {h : PH} {rc rs n0 : Nat} {Q : Option Value → PH → Prop} {X : String → PH → Prop}
    (K : ((hK h a0).1 = 5) ∧ ∃ b2, (hR h a0 1 = some b2) ∧ ((hK h b2).1 = 1) ∧ (((hI h b2 2) ≤ x4 → Q (some (.int x3)) h) ∧ (¬ (hI h b2 2) ≤ x4 → ((20 ≤ x4 → Q (some (.int x3)) h) ∧ (¬ 20 ≤ x4 → ∃ b7, (hR h a0 8 = some b7) ∧ ∃ b9, (hR h b2 14 = some b9) ∧ ((hK h b9).1 = 106) ∧ (vp_in x4 (hK h b9).2) ∧ ∃ b13, (hR h b9 x4.toNatClampNeg = some b13) ∧ ((hK h b13).1 = 6) ∧ ((hK h b7).1 = 100) ∧ (vp_in ((20 * x3) + x4) (hK h b7).2) ∧ Gm l x mX5_run 5 109 [(0, .ref a0), (1, .int x1), (2, .int x2), (3, .int x3), (4, .int (x4 + 1))] [] (sI h b7 ((20 * x3) + x4).toNatClampNeg (hI h b13 9)) rc rs n0 Q X))))) :
    Gm l x mX5_run 5 109 [(0, .ref a0), (1, .int x1), (2, .int x2), (3, .int x3), (4, .int x4)] [] h rc rs n0 Q X := by
  refine g_iload dX5_run_109 4 rfl ?_
  refine g_aload_n dX5_run_111 rfl 0 rfl ?_
  obtain ⟨e1, b2, e3, K⟩ := K
  refine g_get (c := 5) (k := 1) (v := .ref b2) dX5_run_112 fc_5 (by decide) (by decide) bw_316 (congrArg pr e3) e1 ?_
  obtain ⟨e4, K⟩ := K
  refine g_get (c := 1) (k := 2) (v := .int (hI h b2 2)) dX5_run_115 fc_1 (by decide) (by decide) bw_193 rfl e4 ?_
  refine g_icmp_ge (tgt := 159) dX5_run_118 (by decide) (fun c5 => ?_) (fun c5 => ?_)
  · replace K := K.1 c5
    refine g_iload_n dX5_run_159 rfl 3 rfl ?_
    exact g_iret dX5_run_160 rfl K
  · replace K := K.2 c5
    refine g_iload dX5_run_121 4 rfl ?_
    refine g_bipush (v := 20) dX5_run_123 (by decide) ?_
    refine g_icmp_ge (tgt := 159) dX5_run_125 (by decide) (fun c6 => ?_) (fun c6 => ?_)
    · replace K := K.1 c6
      refine g_iload_n dX5_run_159 rfl 3 rfl ?_
      exact g_iret dX5_run_160 rfl K
    · replace K := K.2 c6
      refine g_aload_n dX5_run_128 rfl 0 rfl ?_
      obtain ⟨b7, e8, K⟩ := K
      refine g_get (c := 5) (k := 8) (v := .ref b7) dX5_run_129 fc_5 (by decide) (by decide) bw_327 (congrArg pr e8) e1 ?_
      refine g_bipush (v := 20) dX5_run_132 (by decide) ?_
      refine g_iload_n dX5_run_134 rfl 3 rfl ?_
      refine g_imul dX5_run_135 ?_
      refine g_iload dX5_run_136 4 rfl ?_
      refine g_iadd dX5_run_138 ?_
      refine g_aload_n dX5_run_139 rfl 0 rfl ?_
      refine g_get (c := 5) (k := 1) (v := .ref b2) dX5_run_140 fc_5 (by decide) (by decide) bw_316 (congrArg pr e3) e1 ?_
      obtain ⟨b9, e10, K⟩ := K
      refine g_get (c := 1) (k := 14) (v := .ref b9) dX5_run_143 fc_1 (by decide) (by decide) bw_227 (congrArg pr e10) e4 ?_
      refine g_iload dX5_run_146 4 rfl ?_
      obtain ⟨e11, e12, b13, e14, K⟩ := K
      refine g_aald (t := 6) (v := .ref b13) dX5_run_148 (Or.inr (Or.inl rfl)) e11 e12 (congrArg pr e14) ?_
      obtain ⟨e15, K⟩ := K
      refine g_get (c := 6) (k := 9) (v := .int (hI h b13 9)) dX5_run_149 fc_6 (by decide) (by decide) bw_161 rfl e15 ?_
      obtain ⟨e16, e17, K⟩ := K
      refine g_iast dX5_run_152 e16 e17 ?_
      refine g_iinc (v := (x4 + 1)) (lv' := [(0, .ref a0), (1, .int x1), (2, .int x2), (3, .int x3), (4, .int (x4 + 1))]) dX5_run_153 4 rfl (by rfl) (by decide) rfl ?_
      refine g_goto (tgt := 109) dX5_run_156 (by decide) ?_
      exact K
theorem dX5_room_0 : decode cX5_room 0 = .ok (.iconst 1, 1) := by decide +kernel
theorem dX5_room_1 : decode cX5_room 1 = .ok (.istore_n 3, 1) := by decide +kernel
theorem dX5_room_2 : decode cX5_room 2 = .ok (.iload_n 3, 1) := by decide +kernel
theorem dX5_room_3 : decode cX5_room 3 = .ok (.bipush 6, 2) := by decide +kernel
theorem dX5_room_5 : decode cX5_room 5 = .ok (.if_icmp .gt 72, 3) := by decide +kernel
theorem dX5_room_8 : decode cX5_room 8 = .ok (.aload_n 0, 1) := by decide +kernel
theorem dX5_room_9 : decode cX5_room 9 = .ok (.iload_n 1, 1) := by decide +kernel
theorem dX5_room_10 : decode cX5_room 10 = .ok (.iload_n 2, 1) := by decide +kernel
theorem dX5_room_11 : decode cX5_room 11 = .ok (.invokevirtual 49, 3) := by decide +kernel
theorem dX5_room_14 : decode cX5_room 14 = .ok (.iconst 0, 1) := by decide +kernel
theorem dX5_room_15 : decode cX5_room 15 = .ok (.istore 4, 2) := by decide +kernel
theorem dX5_room_17 : decode cX5_room 17 = .ok (.iload 4, 2) := by decide +kernel
theorem dX5_room_19 : decode cX5_room 19 = .ok (.aload_n 0, 1) := by decide +kernel
theorem dX5_room_20 : decode cX5_room 20 = .ok (.getfield 18, 3) := by decide +kernel
theorem dX5_room_23 : decode cX5_room 23 = .ok (.getfield 96, 3) := by decide +kernel
theorem dX5_room_26 : decode cX5_room 26 = .ok (.if_icmp .ge 23, 3) := by decide +kernel
theorem dX5_room_29 : decode cX5_room 29 = .ok (.aload_n 0, 1) := by decide +kernel
theorem dX5_room_30 : decode cX5_room 30 = .ok (.getfield 18, 3) := by decide +kernel
theorem dX5_room_33 : decode cX5_room 33 = .ok (.getfield 99, 3) := by decide +kernel
theorem dX5_room_36 : decode cX5_room 36 = .ok (.iload 4, 2) := by decide +kernel
theorem dX5_room_38 : decode cX5_room 38 = .ok (.aaload, 1) := by decide +kernel
theorem dX5_room_39 : decode cX5_room 39 = .ok (.iload_n 3, 1) := by decide +kernel
theorem dX5_room_40 : decode cX5_room 40 = .ok (.putfield 103, 3) := by decide +kernel
theorem dX5_room_43 : decode cX5_room 43 = .ok (.iinc 4 1, 3) := by decide +kernel
theorem dX5_room_46 : decode cX5_room 46 = .ok (.goto (-29), 3) := by decide +kernel
theorem dX5_room_49 : decode cX5_room 49 = .ok (.aload_n 0, 1) := by decide +kernel
theorem dX5_room_50 : decode cX5_room 50 = .ok (.getfield 18, 3) := by decide +kernel
theorem dX5_room_53 : decode cX5_room 53 = .ok (.sipush 200, 3) := by decide +kernel
theorem dX5_room_56 : decode cX5_room 56 = .ok (.invokevirtual 53, 3) := by decide +kernel
theorem dX5_room_59 : decode cX5_room 59 = .ok (.aload_n 0, 1) := by decide +kernel
theorem dX5_room_60 : decode cX5_room 60 = .ok (.getfield 18, 3) := by decide +kernel
theorem dX5_room_63 : decode cX5_room 63 = .ok (.invokevirtual 68, 3) := by decide +kernel
theorem dX5_room_66 : decode cX5_room 66 = .ok (.ifCond .ne 5, 3) := by decide +kernel
theorem dX5_room_69 : decode cX5_room 69 = .ok (.iload_n 3, 1) := by decide +kernel
theorem dX5_room_70 : decode cX5_room 70 = .ok (.ireturn, 1) := by decide +kernel
theorem dX5_room_71 : decode cX5_room 71 = .ok (.iinc 3 1, 3) := by decide +kernel
theorem dX5_room_74 : decode cX5_room 74 = .ok (.goto (-72), 3) := by decide +kernel
theorem dX5_room_77 : decode cX5_room 77 = .ok (.iconst (-1), 1) := by decide +kernel
theorem dX5_room_78 : decode cX5_room 78 = .ok (.ireturn, 1) := by decide +kernel
set_option maxRecDepth 20000 in
set_option maxHeartbeats 4000000 in
theorem vX5_room_0 {l : Launch} {x : CX} {a0 : Nat} {x1 : Int32} {x2 : Int32} {h : PH} {rc rs n0 : Nat} {Q : Option Value → PH → Prop} {X : String → PH → Prop}
    (K : Gm l x mX5_room 5 2 [(0, .ref a0), (1, .int x1), (2, .int x2), (3, .int 1)] [] h rc rs n0 Q X) :
    Gm l x mX5_room 5 0 [(0, .ref a0), (1, .int x1), (2, .int x2)] [] h rc rs n0 Q X := by
  refine g_iconst (v := 1) dX5_room_0 (by decide) ?_
  refine g_istore_n (lv' := [(0, .ref a0), (1, .int x1), (2, .int x2), (3, .int 1)]) dX5_room_1 rfl (by decide) rfl ?_
  exact K
set_option maxRecDepth 20000 in
set_option maxHeartbeats 4000000 in
theorem vX5_room_2 {l : Launch} {x : CX} {a0 : Nat} {x1 : Int32} {x2 : Int32} {x3 : Int32} {h : PH} {rc rs n0 : Nat} {Q : Option Value → PH → Prop} {X : String → PH → Prop}
    (K : ((6 < x3 → Q (some (.int (-1))) h) ∧ (¬ 6 < x3 → ((hK h a0).1 = 5) ∧ ∃ (q2 : PH → Prop), CV l x mX5_prepare 2 0 0 [.ref a0, .int x1, .int x2] h q2 ∧ ∀ (h5 : PH), q2 h5 → Gm l x mX5_room 5 17 [(0, .ref a0), (1, .int x1), (2, .int x2), (3, .int x3), (4, .int 0)] [] h5 rc rs n0 Q X))) :
    Gm l x mX5_room 5 2 [(0, .ref a0), (1, .int x1), (2, .int x2), (3, .int x3)] [] h rc rs n0 Q X := by
  refine g_iload_n dX5_room_2 rfl 3 rfl ?_
  refine g_bipush (v := 6) dX5_room_3 (by decide) ?_
  refine g_icmp_gt (tgt := 77) dX5_room_5 (by decide) (fun c1 => ?_) (fun c1 => ?_)
  · replace K := K.1 c1
    refine g_iconst (v := (-1)) dX5_room_77 (by decide) ?_
    exact g_iret dX5_room_78 rfl K
  · replace K := K.2 c1
    refine g_aload_n dX5_room_8 rfl 0 rfl ?_
    refine g_iload_n dX5_room_9 rfl 1 rfl ?_
    refine g_iload_n dX5_room_10 rfl 2 rfl ?_
    obtain ⟨e4, K⟩ := K
    obtain ⟨q2, C3, K⟩ := K
    refine g_callV (M' := mX5_prepare) (b := a0) (As := [.int x1, .int x2]) (rest := []) (rc' := rc) (rs' := rs) dX5_room_11 bw_933 bw_935 bs_31 bw_6 bw_936 ⟨by decide +kernel, by decide +kernel, show (parseMethodDescriptor mX5_prepare.1.desc).map (fun d => d.parameters.length) = some 2 by decide +kernel⟩ (by decide) (by decide) (Nat.le_of_ble_eq_true rfl) fc_5 (by decide) rfl e4 C3 (Nat.le_of_eq (Nat.add_zero _)) (Nat.le_of_eq (Nat.add_zero _)) (fun _ _ h => h) ?_
    rintro _ h5 ⟨rfl, K1⟩ -
    replace K := K h5 K1
    show Gm l x mX5_room 5 14 [(0, .ref a0), (1, .int x1), (2, .int x2), (3, .int x3)] [] h5 rc rs n0 Q X
    refine g_iconst (v := 0) dX5_room_14 (by decide) ?_
    refine g_istore (lv' := [(0, .ref a0), (1, .int x1), (2, .int x2), (3, .int x3), (4, .int 0)]) dX5_room_15 (by decide) rfl ?_
    exact K
set_option maxRecDepth 20000 in
set_option maxHeartbeats 4000000 in
theorem vX5_room_17 {l : Launch} {x : CX} {a0 : Nat} {x1 : Int32} {x2 : Int32} {x3 : Int32} {x4 : Int32} {h : PH} {rc rs n0 : Nat} {Q : Option Value → PH → Prop} {X : String → PH → Prop}
    (K : ((hK h a0).1 = 5) ∧ ∃ b2, (hR h a0 1 = some b2) ∧ ((hK h b2).1 = 1) ∧ (((hI h b2 1) ≤ x4 → ∃ (q6 : PH → Prop), CV l x mX1_pass 4 0 0 [.ref b2, .int 200] h q6 ∧ ∀ (h8 : PH), q6 h8 → ((hK h8 a0).1 = 5) ∧ ∃ b10, (hR h8 a0 1 = some b10) ∧ ((hK h8 b10).1 = 1) ∧ ∃ (q12 : Int32 → PH → Prop), CI l x mX1_passedInAll 0 0 0 [.ref b10] h8 q12 ∧ ∀ (r16 : Int32) (h15 : PH), q12 r16 h15 → ((¬ r16 = 0 → Gm l x mX5_room 5 2 [(0, .ref a0), (1, .int x1), (2, .int x2), (3, .int (x3 + 1))] [] h15 rc rs n0 Q X) ∧ (r16 = 0 → Q (some (.int x3)) h15))) ∧ (¬ (hI h b2 1) ≤ x4 → ∃ b18, (hR h b2 13 = some b18) ∧ ((hK h b18).1 = 105) ∧ (vp_in x4 (hK h b18).2) ∧ ∃ b22, (hR h b18 x4.toNatClampNeg = some b22) ∧ ((hK h b22).1 = 2) ∧ Gm l x mX5_room 5 17 [(0, .ref a0), (1, .int x1), (2, .int x2), (3, .int x3), (4, .int (x4 + 1))] [] (sI h b22 2 x3) rc rs n0 Q X))) :
    Gm l x mX5_room 5 17 [(0, .ref a0), (1, .int x1), (2, .int x2), (3, .int x3), (4, .int x4)] [] h rc rs n0 Q X := by
  refine g_iload dX5_room_17 4 rfl ?_
  refine g_aload_n dX5_room_19 rfl 0 rfl ?_
  obtain ⟨e1, b2, e3, K⟩ := K
  refine g_get (c := 5) (k := 1) (v := .ref b2) dX5_room_20 fc_5 (by decide) (by decide) bw_316 (congrArg pr e3) e1 ?_
  obtain ⟨e4, K⟩ := K
  refine g_get (c := 1) (k := 1) (v := .int (hI h b2 1)) dX5_room_23 fc_1 (by decide) (by decide) bw_190 rfl e4 ?_
  refine g_icmp_ge (tgt := 49) dX5_room_26 (by decide) (fun c5 => ?_) (fun c5 => ?_)
  · replace K := K.1 c5
    refine g_aload_n dX5_room_49 rfl 0 rfl ?_
    refine g_get (c := 5) (k := 1) (v := .ref b2) dX5_room_50 fc_5 (by decide) (by decide) bw_316 (congrArg pr e3) e1 ?_
    refine g_sipush (v := 200) dX5_room_53 (by decide) ?_
    obtain ⟨q6, C7, K⟩ := K
    refine g_callV (M' := mX1_pass) (b := b2) (As := [.int 200]) (rest := []) (rc' := rc) (rs' := rs) dX5_room_56 bw_937 bw_466 bw_467 bw_3 bw_468 ⟨by decide +kernel, by decide +kernel, show (parseMethodDescriptor mX1_pass.1.desc).map (fun d => d.parameters.length) = some 1 by decide +kernel⟩ (by decide) (by decide) (Nat.le_of_ble_eq_true rfl) fc_1 (by decide) rfl e4 C7 (Nat.le_of_eq (Nat.add_zero _)) (Nat.le_of_eq (Nat.add_zero _)) (fun _ _ h => h) ?_
    rintro _ h8 ⟨rfl, K1⟩ -
    replace K := K h8 K1
    show Gm l x mX5_room 5 59 [(0, .ref a0), (1, .int x1), (2, .int x2), (3, .int x3), (4, .int x4)] [] h8 rc rs n0 Q X
    refine g_aload_n dX5_room_59 rfl 0 rfl ?_
    obtain ⟨e9, b10, e11, K⟩ := K
    refine g_get (c := 5) (k := 1) (v := .ref b10) dX5_room_60 fc_5 (by decide) (by decide) bw_316 (congrArg pr e11) e9 ?_
    obtain ⟨e14, K⟩ := K
    obtain ⟨q12, C13, K⟩ := K
    refine g_callV (M' := mX1_passedInAll) (b := b10) (As := []) (rest := []) (rc' := rc) (rs' := rs) dX5_room_63 bw_946 bw_914 bw_915 bw_3 bw_916 ⟨by decide +kernel, by decide +kernel, show (parseMethodDescriptor mX1_passedInAll.1.desc).map (fun d => d.parameters.length) = some 0 by decide +kernel⟩ (by decide) (by decide) (Nat.le_of_ble_eq_true rfl) fc_1 (by decide) rfl e14 C13 (Nat.le_of_eq (Nat.add_zero _)) (Nat.le_of_eq (Nat.add_zero _)) (fun _ _ h => h) ?_
    rintro _ h15 ⟨r16, rfl, K1⟩ -
    replace K := K r16 h15 K1
    show Gm l x mX5_room 5 66 [(0, .ref a0), (1, .int x1), (2, .int x2), (3, .int x3), (4, .int x4)] [.int r16] h15 rc rs n0 Q X
    refine g_if_ne (tgt := 71) dX5_room_66 (by decide) (fun c17 => ?_) (fun c17 => ?_)
    · replace K := K.1 c17
      refine g_iinc (v := (x3 + 1)) (lv' := [(0, .ref a0), (1, .int x1), (2, .int x2), (3, .int (x3 + 1)), (4, .int x4)]) dX5_room_71 3 rfl (by rfl) (by decide) rfl ?_
      refine g_goto (tgt := 2) dX5_room_74 (by decide) ?_
      exact Gm.sub [0, 1, 2, 3] rfl K
    · replace K := K.2 c17
      refine g_iload_n dX5_room_69 rfl 3 rfl ?_
      exact g_iret dX5_room_70 rfl K
  · replace K := K.2 c5
    refine g_aload_n dX5_room_29 rfl 0 rfl ?_
    refine g_get (c := 5) (k := 1) (v := .ref b2) dX5_room_30 fc_5 (by decide) (by decide) bw_316 (congrArg pr e3) e1 ?_
    obtain ⟨b18, e19, K⟩ := K
    refine g_get (c := 1) (k := 13) (v := .ref b18) dX5_room_33 fc_1 (by decide) (by decide) bw_225 (congrArg pr e19) e4 ?_
    refine g_iload dX5_room_36 4 rfl ?_
    obtain ⟨e20, e21, b22, e23, K⟩ := K
    refine g_aald (t := 5) (v := .ref b22) dX5_room_38 (Or.inl rfl) e20 e21 (congrArg pr e23) ?_
    refine g_iload_n dX5_room_39 rfl 3 rfl ?_
    obtain ⟨e24, K⟩ := K
    refine g_puti (c := 2) (k := 2) dX5_room_40 fc_2 (by decide) (by decide) bw_61 (Or.inl rfl) rfl e24 ?_
    refine g_iinc (v := (x4 + 1)) (lv' := [(0, .ref a0), (1, .int x1), (2, .int x2), (3, .int x3), (4, .int (x4 + 1))]) dX5_room_43 4 rfl (by rfl) (by decide) rfl ?_
    refine g_goto (tgt := 17) dX5_room_46 (by decide) ?_
    exact K
theorem dX5_missed_0 : decode cX5_missed 0 = .ok (.iconst (-1), 1) := by decide +kernel
theorem dX5_missed_1 : decode cX5_missed 1 = .ok (.istore_n 3, 1) := by decide +kernel
theorem dX5_missed_2 : decode cX5_missed 2 = .ok (.iconst 0, 1) := by decide +kernel
theorem dX5_missed_3 : decode cX5_missed 3 = .ok (.istore 4, 2) := by decide +kernel
theorem dX5_missed_5 : decode cX5_missed 5 = .ok (.iconst 0, 1) := by decide +kernel
theorem dX5_missed_6 : decode cX5_missed 6 = .ok (.istore 5, 2) := by decide +kernel
theorem dX5_missed_8 : decode cX5_missed 8 = .ok (.iload 5, 2) := by decide +kernel
theorem dX5_missed_10 : decode cX5_missed 10 = .ok (.aload_n 0, 1) := by decide +kernel
theorem dX5_missed_11 : decode cX5_missed 11 = .ok (.getfield 12, 3) := by decide +kernel
theorem dX5_missed_14 : decode cX5_missed 14 = .ok (.getfield 96, 3) := by decide +kernel
theorem dX5_missed_17 : decode cX5_missed 17 = .ok (.if_icmp .ge 67, 3) := by decide +kernel
theorem dX5_missed_20 : decode cX5_missed 20 = .ok (.aload_n 0, 1) := by decide +kernel
theorem dX5_missed_21 : decode cX5_missed 21 = .ok (.iload_n 1, 1) := by decide +kernel
theorem dX5_missed_22 : decode cX5_missed 22 = .ok (.iload_n 2, 1) := by decide +kernel
theorem dX5_missed_23 : decode cX5_missed 23 = .ok (.invokevirtual 49, 3) := by decide +kernel
theorem dX5_missed_26 : decode cX5_missed 26 = .ok (.aload_n 0, 1) := by decide +kernel
theorem dX5_missed_27 : decode cX5_missed 27 = .ok (.getfield 18, 3) := by decide +kernel
theorem dX5_missed_30 : decode cX5_missed 30 = .ok (.getfield 99, 3) := by decide +kernel
theorem dX5_missed_33 : decode cX5_missed 33 = .ok (.iload 5, 2) := by decide +kernel
theorem dX5_missed_35 : decode cX5_missed 35 = .ok (.aaload, 1) := by decide +kernel
theorem dX5_missed_36 : decode cX5_missed 36 = .ok (.iconst 0, 1) := by decide +kernel
theorem dX5_missed_37 : decode cX5_missed 37 = .ok (.putfield 108, 3) := by decide +kernel
theorem dX5_missed_40 : decode cX5_missed 40 = .ok (.aload_n 0, 1) := by decide +kernel
theorem dX5_missed_41 : decode cX5_missed 41 = .ok (.getfield 18, 3) := by decide +kernel
theorem dX5_missed_44 : decode cX5_missed 44 = .ok (.sipush 200, 3) := by decide +kernel
theorem dX5_missed_47 : decode cX5_missed 47 = .ok (.invokevirtual 53, 3) := by decide +kernel
theorem dX5_missed_50 : decode cX5_missed 50 = .ok (.aload_n 0, 1) := by decide +kernel
theorem dX5_missed_51 : decode cX5_missed 51 = .ok (.getfield 18, 3) := by decide +kernel
theorem dX5_missed_54 : decode cX5_missed 54 = .ok (.invokevirtual 57, 3) := by decide +kernel
theorem dX5_missed_57 : decode cX5_missed 57 = .ok (.istore 6, 2) := by decide +kernel
theorem dX5_missed_59 : decode cX5_missed 59 = .ok (.iload_n 3, 1) := by decide +kernel
theorem dX5_missed_60 : decode cX5_missed 60 = .ok (.iconst (-1), 1) := by decide +kernel
theorem dX5_missed_61 : decode cX5_missed 61 = .ok (.if_icmp .eq 10, 3) := by decide +kernel
theorem dX5_missed_64 : decode cX5_missed 64 = .ok (.iload 6, 2) := by decide +kernel
theorem dX5_missed_66 : decode cX5_missed 66 = .ok (.iload 4, 2) := by decide +kernel
theorem dX5_missed_68 : decode cX5_missed 68 = .ok (.if_icmp .le 10, 3) := by decide +kernel
theorem dX5_missed_71 : decode cX5_missed 71 = .ok (.iload 5, 2) := by decide +kernel
theorem dX5_missed_73 : decode cX5_missed 73 = .ok (.istore_n 3, 1) := by decide +kernel
theorem dX5_missed_74 : decode cX5_missed 74 = .ok (.iload 6, 2) := by decide +kernel
theorem dX5_missed_76 : decode cX5_missed 76 = .ok (.istore 4, 2) := by decide +kernel
theorem dX5_missed_78 : decode cX5_missed 78 = .ok (.iinc 5 1, 3) := by decide +kernel
theorem dX5_missed_81 : decode cX5_missed 81 = .ok (.goto (-73), 3) := by decide +kernel
theorem dX5_missed_84 : decode cX5_missed 84 = .ok (.iload_n 3, 1) := by decide +kernel
theorem dX5_missed_85 : decode cX5_missed 85 = .ok (.ireturn, 1) := by decide +kernel
set_option maxRecDepth 20000 in
set_option maxHeartbeats 4000000 in
theorem vX5_missed_0 {l : Launch} {x : CX} {a0 : Nat} {x1 : Int32} {x2 : Int32} {h : PH} {rc rs n0 : Nat} {Q : Option Value → PH → Prop} {X : String → PH → Prop}
    (K : Gm l x mX5_missed 5 8 [(0, .ref a0), (1, .int x1), (2, .int x2), (3, .int (-1)), (4, .int 0), (5, .int 0)] [] h rc rs n0 Q X) :
    Gm l x mX5_missed 5 0 [(0, .ref a0), (1, .int x1), (2, .int x2)] [] h rc rs n0 Q X := by
  refine g_iconst (v := (-1)) dX5_missed_0 (by decide) ?_
  refine g_istore_n (lv' := [(0, .ref a0), (1, .int x1), (2, .int x2), (3, .int (-1))]) dX5_missed_1 rfl (by decide) rfl ?_
  refine g_iconst (v := 0) dX5_missed_2 (by decide) ?_
  refine g_istore (lv' := [(0, .ref a0), (1, .int x1), (2, .int x2), (3, .int (-1)), (4, .int 0)]) dX5_missed_3 (by decide) rfl ?_
  refine g_iconst (v := 0) dX5_missed_5 (by decide) ?_
  refine g_istore (lv' := [(0, .ref a0), (1, .int x1), (2, .int x2), (3, .int (-1)), (4, .int 0), (5, .int 0)]) dX5_missed_6 (by decide) rfl ?_
  exact K
set_option maxRecDepth 20000 in
set_option maxHeartbeats 4000000 in
theorem vX5_missed_8 {l : Launch} {x : CX} {a0 : Nat} {x1 : Int32} {x2 : Int32} {x3 : Int32} {x4 : Int32} {x5 : Int32} {h : PH} {rc rs n0 : Nat} {Q : Option Value → PH → Prop} {X : String → PH → Prop}
    (K : ((hK h a0).1 = 5) ∧ ∃ b2, (hR h a0 0 = some b2) ∧ ((hK h b2).1 = 1) ∧ (((hI h b2 1) ≤ x5 → Q (some (.int x3)) h) ∧ (¬ (hI h b2 1) ≤ x5 → ∃ (q6 : PH → Prop), CV l x mX5_prepare 2 0 0 [.ref a0, .int x1, .int x2] h q6 ∧ ∀ (h8 : PH), q6 h8 → ((hK h8 a0).1 = 5) ∧ ∃ b10, (hR h8 a0 1 = some b10) ∧ ((hK h8 b10).1 = 1) ∧ ∃ b13, (hR h8 b10 13 = some b13) ∧ ((hK h8 b13).1 = 105) ∧ (vp_in x5 (hK h8 b13).2) ∧ ∃ b17, (hR h8 b13 x5.toNatClampNeg = some b17) ∧ ((hK h8 b17).1 = 2) ∧ ∃ (q20 : PH → Prop), CV l x mX1_pass 4 0 0 [.ref b10, .int 200] (sI h8 b17 6 0) q20 ∧ ∀ (h22 : PH), q20 h22 → ((hK h22 a0).1 = 5) ∧ ∃ b24, (hR h22 a0 1 = some b24) ∧ ((hK h22 b24).1 = 1) ∧ ∃ (q26 : Int32 → PH → Prop), CI l x mX1_waitedInAll 0 0 0 [.ref b24] h22 q26 ∧ ∀ (r30 : Int32) (h29 : PH), q26 r30 h29 → Gm l x mX5_missed 5 8 [(0, .ref a0), (1, .int x1), (2, .int x2), (3, .int (if x3 = (-1) then x5 else (if r30 ≤ x4 then x3 else x5 : Int32) : Int32)), (4, .int (if x3 = (-1) then r30 else (if r30 ≤ x4 then x4 else r30 : Int32) : Int32)), (5, .int (x5 + 1))] [] h29 rc rs n0 Q X))) :
    Gm l x mX5_missed 5 8 [(0, .ref a0), (1, .int x1), (2, .int x2), (3, .int x3), (4, .int x4), (5, .int x5)] [] h rc rs n0 Q X := by
  refine g_iload dX5_missed_8 5 rfl ?_
  refine g_aload_n dX5_missed_10 rfl 0 rfl ?_
  obtain ⟨e1, b2, e3, K⟩ := K
  refine g_get (c := 5) (k := 0) (v := .ref b2) dX5_missed_11 fc_5 (by decide) (by decide) bw_314 (congrArg pr e3) e1 ?_
  obtain ⟨e4, K⟩ := K
  refine g_get (c := 1) (k := 1) (v := .int (hI h b2 1)) dX5_missed_14 fc_1 (by decide) (by decide) bw_190 rfl e4 ?_
  refine g_icmp_ge (tgt := 84) dX5_missed_17 (by decide) (fun c5 => ?_) (fun c5 => ?_)
  · replace K := K.1 c5
    refine g_iload_n dX5_missed_84 rfl 3 rfl ?_
    exact g_iret dX5_missed_85 rfl K
  · replace K := K.2 c5
    refine g_aload_n dX5_missed_20 rfl 0 rfl ?_
    refine g_iload_n dX5_missed_21 rfl 1 rfl ?_
    refine g_iload_n dX5_missed_22 rfl 2 rfl ?_
    obtain ⟨q6, C7, K⟩ := K
    refine g_callV (M' := mX5_prepare) (b := a0) (As := [.int x1, .int x2]) (rest := []) (rc' := rc) (rs' := rs) dX5_missed_23 bw_933 bw_935 bs_31 bw_6 bw_936 ⟨by decide +kernel, by decide +kernel, show (parseMethodDescriptor mX5_prepare.1.desc).map (fun d => d.parameters.length) = some 2 by decide +kernel⟩ (by decide) (by decide) (Nat.le_of_ble_eq_true rfl) fc_5 (by decide) rfl e1 C7 (Nat.le_of_eq (Nat.add_zero _)) (Nat.le_of_eq (Nat.add_zero _)) (fun _ _ h => h) ?_
    rintro _ h8 ⟨rfl, K1⟩ -
    replace K := K h8 K1
    show Gm l x mX5_missed 5 26 [(0, .ref a0), (1, .int x1), (2, .int x2), (3, .int x3), (4, .int x4), (5, .int x5)] [] h8 rc rs n0 Q X
    refine g_aload_n dX5_missed_26 rfl 0 rfl ?_
    obtain ⟨e9, b10, e11, K⟩ := K
    refine g_get (c := 5) (k := 1) (v := .ref b10) dX5_missed_27 fc_5 (by decide) (by decide) bw_316 (congrArg pr e11) e9 ?_
    obtain ⟨e12, b13, e14, K⟩ := K
    refine g_get (c := 1) (k := 13) (v := .ref b13) dX5_missed_30 fc_1 (by decide) (by decide) bw_225 (congrArg pr e14) e12 ?_
    refine g_iload dX5_missed_33 5 rfl ?_
    obtain ⟨e15, e16, b17, e18, K⟩ := K
    refine g_aald (t := 5) (v := .ref b17) dX5_missed_35 (Or.inl rfl) e15 e16 (congrArg pr e18) ?_
    refine g_iconst (v := 0) dX5_missed_36 (by decide) ?_
    obtain ⟨e19, K⟩ := K
    refine g_putz (c := 2) (k := 6) dX5_missed_37 fc_2 (by decide) (by decide) bw_74 (Or.inl rfl) rfl (by decide) e19 ?_
    refine g_aload_n dX5_missed_40 rfl 0 rfl ?_
    refine g_get (c := 5) (k := 1) (v := .ref b10) dX5_missed_41 fc_5 (by decide) (by decide) bw_316 (congrArg pr (krI e11)) (kkI e9) ?_
    refine g_sipush (v := 200) dX5_missed_44 (by decide) ?_
    obtain ⟨q20, C21, K⟩ := K
    refine g_callV (M' := mX1_pass) (b := b10) (As := [.int 200]) (rest := []) (rc' := rc) (rs' := rs) dX5_missed_47 bw_937 bw_466 bw_467 bw_3 bw_468 ⟨by decide +kernel, by decide +kernel, show (parseMethodDescriptor mX1_pass.1.desc).map (fun d => d.parameters.length) = some 1 by decide +kernel⟩ (by decide) (by decide) (Nat.le_of_ble_eq_true rfl) fc_1 (by decide) rfl (kkI e12) C21 (Nat.le_of_eq (Nat.add_zero _)) (Nat.le_of_eq (Nat.add_zero _)) (fun _ _ h => h) ?_
    rintro _ h22 ⟨rfl, K1⟩ -
    replace K := K h22 K1
    show Gm l x mX5_missed 5 50 [(0, .ref a0), (1, .int x1), (2, .int x2), (3, .int x3), (4, .int x4), (5, .int x5)] [] h22 rc rs n0 Q X
    refine g_aload_n dX5_missed_50 rfl 0 rfl ?_
    obtain ⟨e23, b24, e25, K⟩ := K
    refine g_get (c := 5) (k := 1) (v := .ref b24) dX5_missed_51 fc_5 (by decide) (by decide) bw_316 (congrArg pr e25) e23 ?_
    obtain ⟨e28, K⟩ := K
    obtain ⟨q26, C27, K⟩ := K
    refine g_callV (M' := mX1_waitedInAll) (b := b24) (As := []) (rest := []) (rc' := rc) (rs' := rs) dX5_missed_54 bw_938 bw_918 bw_919 bw_3 bw_920 ⟨by decide +kernel, by decide +kernel, show (parseMethodDescriptor mX1_waitedInAll.1.desc).map (fun d => d.parameters.length) = some 0 by decide +kernel⟩ (by decide) (by decide) (Nat.le_of_ble_eq_true rfl) fc_1 (by decide) rfl e28 C27 (Nat.le_of_eq (Nat.add_zero _)) (Nat.le_of_eq (Nat.add_zero _)) (fun _ _ h => h) ?_
    rintro _ h29 ⟨r30, rfl, K1⟩ -
    replace K := K r30 h29 K1
    show Gm l x mX5_missed 5 57 [(0, .ref a0), (1, .int x1), (2, .int x2), (3, .int x3), (4, .int x4), (5, .int x5)] [.int r30] h29 rc rs n0 Q X
    refine g_istore (lv' := [(0, .ref a0), (1, .int x1), (2, .int x2), (3, .int x3), (4, .int x4), (5, .int x5), (6, .int r30)]) dX5_missed_57 (by decide) rfl ?_
    refine g_iload_n dX5_missed_59 rfl 3 rfl ?_
    refine g_iconst (v := (-1)) dX5_missed_60 (by decide) ?_
    have KJ : Gm l x mX5_missed 5 78 [(0, .ref a0), (1, .int x1), (2, .int x2), (3, .int (if x3 = (-1) then x5 else (if r30 ≤ x4 then x3 else x5 : Int32) : Int32)), (4, .int (if x3 = (-1) then r30 else (if r30 ≤ x4 then x4 else r30 : Int32) : Int32)), (5, .int x5), (6, .int r30)] [] h29 rc rs n0 Q X := by
      refine g_iinc (v := (x5 + 1)) (lv' := [(0, .ref a0), (1, .int x1), (2, .int x2), (3, .int (if x3 = (-1) then x5 else (if r30 ≤ x4 then x3 else x5 : Int32) : Int32)), (4, .int (if x3 = (-1) then r30 else (if r30 ≤ x4 then x4 else r30 : Int32) : Int32)), (5, .int (x5 + 1)), (6, .int r30)]) dX5_missed_78 5 rfl (by rfl) (by decide) rfl ?_
      refine g_goto (tgt := 8) dX5_missed_81 (by decide) ?_
      exact Gm.sub [0, 1, 2, 3, 4, 5] rfl K
    refine g_icmp_eq (tgt := 71) dX5_missed_61 (by decide) (fun c31 => ?_) (fun c31 => ?_)
    · refine g_iload dX5_missed_71 5 rfl ?_
      refine g_istore_n (lv' := [(0, .ref a0), (1, .int x1), (2, .int x2), (3, .int x5), (4, .int x4), (5, .int x5), (6, .int r30)]) dX5_missed_73 rfl (by decide) rfl ?_
      refine g_iload dX5_missed_74 6 rfl ?_
      refine g_istore (lv' := [(0, .ref a0), (1, .int x1), (2, .int x2), (3, .int x5), (4, .int r30), (5, .int x5), (6, .int r30)]) dX5_missed_76 (by decide) rfl ?_
      first | (simp only [if_pos c31] at KJ; exact KJ) | (simp only [if_pos c31, ite_true, ite_false, eq_self] at KJ; exact KJ) | (simp only [if_pos c31] at KJ ⊢; exact KJ) | exact KJ
    · refine g_iload dX5_missed_64 6 rfl ?_
      refine g_iload dX5_missed_66 4 rfl ?_
      refine g_icmp_le (tgt := 78) dX5_missed_68 (by decide) (fun c32 => ?_) (fun c32 => ?_)
      · first | (simp only [if_neg c31, if_pos c32] at KJ; exact KJ) | (simp only [if_neg c31, if_pos c32, ite_true, ite_false, eq_self] at KJ; exact KJ) | (simp only [if_neg c31, if_pos c32] at KJ ⊢; exact KJ) | exact KJ
      · refine g_iload dX5_missed_71 5 rfl ?_
        refine g_istore_n (lv' := [(0, .ref a0), (1, .int x1), (2, .int x2), (3, .int x5), (4, .int x4), (5, .int x5), (6, .int r30)]) dX5_missed_73 rfl (by decide) rfl ?_
        refine g_iload dX5_missed_74 6 rfl ?_
        refine g_istore (lv' := [(0, .ref a0), (1, .int x1), (2, .int x2), (3, .int x5), (4, .int r30), (5, .int x5), (6, .int r30)]) dX5_missed_76 (by decide) rfl ?_
        first | (simp only [if_neg c31, if_neg c32] at KJ; exact KJ) | (simp only [if_neg c31, if_neg c32, ite_true, ite_false, eq_self] at KJ; exact KJ) | (simp only [if_neg c31, if_neg c32] at KJ ⊢; exact KJ) | exact KJ
theorem dX5_waitedByHome_0 : decode cX5_waitedByHome 0 = .ok (.aload_n 0, 1) := by decide +kernel
theorem dX5_waitedByHome_1 : decode cX5_waitedByHome 1 = .ok (.iload_n 3, 1) := by decide +kernel
theorem dX5_waitedByHome_2 : decode cX5_waitedByHome 2 = .ok (.iload 4, 2) := by decide +kernel
theorem dX5_waitedByHome_4 : decode cX5_waitedByHome 4 = .ok (.invokevirtual 49, 3) := by decide +kernel
theorem dX5_waitedByHome_7 : decode cX5_waitedByHome 7 = .ok (.aload_n 0, 1) := by decide +kernel
theorem dX5_waitedByHome_8 : decode cX5_waitedByHome 8 = .ok (.getfield 18, 3) := by decide +kernel
theorem dX5_waitedByHome_11 : decode cX5_waitedByHome 11 = .ok (.getfield 99, 3) := by decide +kernel
theorem dX5_waitedByHome_14 : decode cX5_waitedByHome 14 = .ok (.iload_n 1, 1) := by decide +kernel
theorem dX5_waitedByHome_15 : decode cX5_waitedByHome 15 = .ok (.aaload, 1) := by decide +kernel
theorem dX5_waitedByHome_16 : decode cX5_waitedByHome 16 = .ok (.iload_n 2, 1) := by decide +kernel
theorem dX5_waitedByHome_17 : decode cX5_waitedByHome 17 = .ok (.putfield 112, 3) := by decide +kernel
theorem dX5_waitedByHome_20 : decode cX5_waitedByHome 20 = .ok (.aload_n 0, 1) := by decide +kernel
theorem dX5_waitedByHome_21 : decode cX5_waitedByHome 21 = .ok (.getfield 18, 3) := by decide +kernel
theorem dX5_waitedByHome_24 : decode cX5_waitedByHome 24 = .ok (.getfield 99, 3) := by decide +kernel
theorem dX5_waitedByHome_27 : decode cX5_waitedByHome 27 = .ok (.iload_n 1, 1) := by decide +kernel
theorem dX5_waitedByHome_28 : decode cX5_waitedByHome 28 = .ok (.aaload, 1) := by decide +kernel
theorem dX5_waitedByHome_29 : decode cX5_waitedByHome 29 = .ok (.iload_n 2, 1) := by decide +kernel
theorem dX5_waitedByHome_30 : decode cX5_waitedByHome 30 = .ok (.putfield 115, 3) := by decide +kernel
theorem dX5_waitedByHome_33 : decode cX5_waitedByHome 33 = .ok (.aload_n 0, 1) := by decide +kernel
theorem dX5_waitedByHome_34 : decode cX5_waitedByHome 34 = .ok (.getfield 18, 3) := by decide +kernel
theorem dX5_waitedByHome_37 : decode cX5_waitedByHome 37 = .ok (.sipush 200, 3) := by decide +kernel
theorem dX5_waitedByHome_40 : decode cX5_waitedByHome 40 = .ok (.invokevirtual 53, 3) := by decide +kernel
theorem dX5_waitedByHome_43 : decode cX5_waitedByHome 43 = .ok (.aload_n 0, 1) := by decide +kernel
theorem dX5_waitedByHome_44 : decode cX5_waitedByHome 44 = .ok (.getfield 18, 3) := by decide +kernel
theorem dX5_waitedByHome_47 : decode cX5_waitedByHome 47 = .ok (.invokevirtual 57, 3) := by decide +kernel
theorem dX5_waitedByHome_50 : decode cX5_waitedByHome 50 = .ok (.ireturn, 1) := by decide +kernel
set_option maxRecDepth 20000 in
set_option maxHeartbeats 4000000 in
theorem vX5_waitedByHome_0 {l : Launch} {x : CX} {a0 : Nat} {x1 : Int32} {x2 : Int32} {x3 : Int32} {x4 : Int32} {h : PH} {rc rs n0 : Nat} {Q : Option Value → PH → Prop} {X : String → PH → Prop}
    (K : ((hK h a0).1 = 5) ∧ ∃ (q1 : PH → Prop), CV l x mX5_prepare 2 0 0 [.ref a0, .int x3, .int x4] h q1 ∧ ∀ (h4 : PH), q1 h4 → ((hK h4 a0).1 = 5) ∧ ∃ b6, (hR h4 a0 1 = some b6) ∧ ((hK h4 b6).1 = 1) ∧ ∃ b9, (hR h4 b6 13 = some b9) ∧ ((hK h4 b9).1 = 105) ∧ (vp_in x1 (hK h4 b9).2) ∧ ∃ b13, (hR h4 b9 x1.toNatClampNeg = some b13) ∧ ((hK h4 b13).1 = 2) ∧ (vp_in x1 (hK h4 b9).2) ∧ ∃ b17, (hR h4 b9 x1.toNatClampNeg = some b17) ∧ ((hK h4 b17).1 = 2) ∧ ∃ (q20 : PH → Prop), CV l x mX1_pass 4 0 0 [.ref b6, .int 200] (sI (sI h4 b13 1 x2) b17 3 x2) q20 ∧ ∀ (h22 : PH), q20 h22 → ((hK h22 a0).1 = 5) ∧ ∃ b24, (hR h22 a0 1 = some b24) ∧ ((hK h22 b24).1 = 1) ∧ ∃ (q26 : Int32 → PH → Prop), CI l x mX1_waitedInAll 0 0 0 [.ref b24] h22 q26 ∧ ∀ (r30 : Int32) (h29 : PH), q26 r30 h29 → Q (some (.int r30)) h29) :
    Gm l x mX5_waitedByHome 5 0 [(0, .ref a0), (1, .int x1), (2, .int x2), (3, .int x3), (4, .int x4)] [] h rc rs n0 Q X := by
  refine g_aload_n dX5_waitedByHome_0 rfl 0 rfl ?_
  refine g_iload_n dX5_waitedByHome_1 rfl 3 rfl ?_
  refine g_iload dX5_waitedByHome_2 4 rfl ?_
  obtain ⟨e3, K⟩ := K
  obtain ⟨q1, C2, K⟩ := K
  refine g_callV (M' := mX5_prepare) (b := a0) (As := [.int x3, .int x4]) (rest := []) (rc' := rc) (rs' := rs) dX5_waitedByHome_4 bw_933 bw_935 bs_31 bw_6 bw_936 ⟨by decide +kernel, by decide +kernel, show (parseMethodDescriptor mX5_prepare.1.desc).map (fun d => d.parameters.length) = some 2 by decide +kernel⟩ (by decide) (by decide) (Nat.le_of_ble_eq_true rfl) fc_5 (by decide) rfl e3 C2 (Nat.le_of_eq (Nat.add_zero _)) (Nat.le_of_eq (Nat.add_zero _)) (fun _ _ h => h) ?_
  rintro _ h4 ⟨rfl, K1⟩ -
  replace K := K h4 K1
  show Gm l x mX5_waitedByHome 5 7 [(0, .ref a0), (1, .int x1), (2, .int x2), (3, .int x3), (4, .int x4)] [] h4 rc rs n0 Q X
  refine g_aload_n dX5_waitedByHome_7 rfl 0 rfl ?_
  obtain ⟨e5, b6, e7, K⟩ := K
  refine g_get (c := 5) (k := 1) (v := .ref b6) dX5_waitedByHome_8 fc_5 (by decide) (by decide) bw_316 (congrArg pr e7) e5 ?_
  obtain ⟨e8, b9, e10, K⟩ := K
  refine g_get (c := 1) (k := 13) (v := .ref b9) dX5_waitedByHome_11 fc_1 (by decide) (by decide) bw_225 (congrArg pr e10) e8 ?_
  refine g_iload_n dX5_waitedByHome_14 rfl 1 rfl ?_
  obtain ⟨e11, e12, b13, e14, K⟩ := K
  refine g_aald (t := 5) (v := .ref b13) dX5_waitedByHome_15 (Or.inl rfl) e11 e12 (congrArg pr e14) ?_
  refine g_iload_n dX5_waitedByHome_16 rfl 2 rfl ?_
  obtain ⟨e15, K⟩ := K
  refine g_puti (c := 2) (k := 1) dX5_waitedByHome_17 fc_2 (by decide) (by decide) bw_57 (Or.inl rfl) rfl e15 ?_
  refine g_aload_n dX5_waitedByHome_20 rfl 0 rfl ?_
  refine g_get (c := 5) (k := 1) (v := .ref b6) dX5_waitedByHome_21 fc_5 (by decide) (by decide) bw_316 (congrArg pr (krI e7)) (kkI e5) ?_
  refine g_get (c := 1) (k := 13) (v := .ref b9) dX5_waitedByHome_24 fc_1 (by decide) (by decide) bw_225 (congrArg pr (krI e10)) (kkI e8) ?_
  refine g_iload_n dX5_waitedByHome_27 rfl 1 rfl ?_
  obtain ⟨e16, b17, e18, K⟩ := K
  refine g_aald (t := 5) (v := .ref b17) dX5_waitedByHome_28 (Or.inl rfl) (kkI e11) (kvI e16) (congrArg pr (krI e18)) ?_
  refine g_iload_n dX5_waitedByHome_29 rfl 2 rfl ?_
  obtain ⟨e19, K⟩ := K
  refine g_puti (c := 2) (k := 3) dX5_waitedByHome_30 fc_2 (by decide) (by decide) bw_64 (Or.inl rfl) rfl (kkI e19) ?_
  refine g_aload_n dX5_waitedByHome_33 rfl 0 rfl ?_
  refine g_get (c := 5) (k := 1) (v := .ref b6) dX5_waitedByHome_34 fc_5 (by decide) (by decide) bw_316 (congrArg pr (krI (krI e7))) (kkI (kkI e5)) ?_
  refine g_sipush (v := 200) dX5_waitedByHome_37 (by decide) ?_
  obtain ⟨q20, C21, K⟩ := K
  refine g_callV (M' := mX1_pass) (b := b6) (As := [.int 200]) (rest := []) (rc' := rc) (rs' := rs) dX5_waitedByHome_40 bw_937 bw_466 bw_467 bw_3 bw_468 ⟨by decide +kernel, by decide +kernel, show (parseMethodDescriptor mX1_pass.1.desc).map (fun d => d.parameters.length) = some 1 by decide +kernel⟩ (by decide) (by decide) (Nat.le_of_ble_eq_true rfl) fc_1 (by decide) rfl (kkI (kkI e8)) C21 (Nat.le_of_eq (Nat.add_zero _)) (Nat.le_of_eq (Nat.add_zero _)) (fun _ _ h => h) ?_
  rintro _ h22 ⟨rfl, K1⟩ -
  replace K := K h22 K1
  show Gm l x mX5_waitedByHome 5 43 [(0, .ref a0), (1, .int x1), (2, .int x2), (3, .int x3), (4, .int x4)] [] h22 rc rs n0 Q X
  refine g_aload_n dX5_waitedByHome_43 rfl 0 rfl ?_
  obtain ⟨e23, b24, e25, K⟩ := K
  refine g_get (c := 5) (k := 1) (v := .ref b24) dX5_waitedByHome_44 fc_5 (by decide) (by decide) bw_316 (congrArg pr e25) e23 ?_
  obtain ⟨e28, K⟩ := K
  obtain ⟨q26, C27, K⟩ := K
  refine g_callV (M' := mX1_waitedInAll) (b := b24) (As := []) (rest := []) (rc' := rc) (rs' := rs) dX5_waitedByHome_47 bw_938 bw_918 bw_919 bw_3 bw_920 ⟨by decide +kernel, by decide +kernel, show (parseMethodDescriptor mX1_waitedInAll.1.desc).map (fun d => d.parameters.length) = some 0 by decide +kernel⟩ (by decide) (by decide) (Nat.le_of_ble_eq_true rfl) fc_1 (by decide) rfl e28 C27 (Nat.le_of_eq (Nat.add_zero _)) (Nat.le_of_eq (Nat.add_zero _)) (fun _ _ h => h) ?_
  rintro _ h29 ⟨r30, rfl, K1⟩ -
  replace K := K r30 h29 K1
  show Gm l x mX5_waitedByHome 5 50 [(0, .ref a0), (1, .int x1), (2, .int x2), (3, .int x3), (4, .int x4)] [.int r30] h29 rc rs n0 Q X
  exact g_iret dX5_waitedByHome_50 rfl K
theorem dX5_doneIfLater_0 : decode cX5_doneIfLater 0 = .ok (.aload_n 0, 1) := by decide +kernel
theorem dX5_doneIfLater_1 : decode cX5_doneIfLater 1 = .ok (.iload_n 3, 1) := by decide +kernel
theorem dX5_doneIfLater_2 : decode cX5_doneIfLater 2 = .ok (.iload 4, 2) := by decide +kernel
theorem dX5_doneIfLater_4 : decode cX5_doneIfLater 4 = .ok (.invokevirtual 49, 3) := by decide +kernel
theorem dX5_doneIfLater_7 : decode cX5_doneIfLater 7 = .ok (.aload_n 0, 1) := by decide +kernel
theorem dX5_doneIfLater_8 : decode cX5_doneIfLater 8 = .ok (.getfield 18, 3) := by decide +kernel
theorem dX5_doneIfLater_11 : decode cX5_doneIfLater 11 = .ok (.getfield 78, 3) := by decide +kernel
theorem dX5_doneIfLater_14 : decode cX5_doneIfLater 14 = .ok (.iload_n 1, 1) := by decide +kernel
theorem dX5_doneIfLater_15 : decode cX5_doneIfLater 15 = .ok (.aaload, 1) := by decide +kernel
theorem dX5_doneIfLater_16 : decode cX5_doneIfLater 16 = .ok (.dup, 1) := by decide +kernel
theorem dX5_doneIfLater_17 : decode cX5_doneIfLater 17 = .ok (.getfield 118, 3) := by decide +kernel
theorem dX5_doneIfLater_20 : decode cX5_doneIfLater 20 = .ok (.iload_n 2, 1) := by decide +kernel
theorem dX5_doneIfLater_21 : decode cX5_doneIfLater 21 = .ok (.iadd, 1) := by decide +kernel
theorem dX5_doneIfLater_22 : decode cX5_doneIfLater 22 = .ok (.putfield 118, 3) := by decide +kernel
theorem dX5_doneIfLater_25 : decode cX5_doneIfLater 25 = .ok (.aload_n 0, 1) := by decide +kernel
theorem dX5_doneIfLater_26 : decode cX5_doneIfLater 26 = .ok (.getfield 18, 3) := by decide +kernel
theorem dX5_doneIfLater_29 : decode cX5_doneIfLater 29 = .ok (.sipush 200, 3) := by decide +kernel
theorem dX5_doneIfLater_32 : decode cX5_doneIfLater 32 = .ok (.invokevirtual 53, 3) := by decide +kernel
theorem dX5_doneIfLater_35 : decode cX5_doneIfLater 35 = .ok (.aload_n 0, 1) := by decide +kernel
theorem dX5_doneIfLater_36 : decode cX5_doneIfLater 36 = .ok (.getfield 18, 3) := by decide +kernel
theorem dX5_doneIfLater_39 : decode cX5_doneIfLater 39 = .ok (.getfield 78, 3) := by decide +kernel
theorem dX5_doneIfLater_42 : decode cX5_doneIfLater 42 = .ok (.iload_n 1, 1) := by decide +kernel
theorem dX5_doneIfLater_43 : decode cX5_doneIfLater 43 = .ok (.aaload, 1) := by decide +kernel
theorem dX5_doneIfLater_44 : decode cX5_doneIfLater 44 = .ok (.getfield 82, 3) := by decide +kernel
theorem dX5_doneIfLater_47 : decode cX5_doneIfLater 47 = .ok (.ireturn, 1) := by decide +kernel
set_option maxRecDepth 20000 in
set_option maxHeartbeats 4000000 in
theorem vX5_doneIfLater_0 {l : Launch} {x : CX} {a0 : Nat} {x1 : Int32} {x2 : Int32} {x3 : Int32} {x4 : Int32} {h : PH} {rc rs n0 : Nat} {Q : Option Value → PH → Prop} {X : String → PH → Prop}
    (K : ((hK h a0).1 = 5) ∧ ∃ (q1 : PH → Prop), CV l x mX5_prepare 2 0 0 [.ref a0, .int x3, .int x4] h q1 ∧ ∀ (h4 : PH), q1 h4 → ((hK h4 a0).1 = 5) ∧ ∃ b6, (hR h4 a0 1 = some b6) ∧ ((hK h4 b6).1 = 1) ∧ ∃ b9, (hR h4 b6 14 = some b9) ∧ ((hK h4 b9).1 = 106) ∧ (vp_in x1 (hK h4 b9).2) ∧ ∃ b13, (hR h4 b9 x1.toNatClampNeg = some b13) ∧ ((hK h4 b13).1 = 6) ∧ ∃ (q16 : PH → Prop), CV l x mX1_pass 4 0 0 [.ref b6, .int 200] (sI h4 b13 1 ((hI h4 b13 1) + x2)) q16 ∧ ∀ (h18 : PH), q16 h18 → ((hK h18 a0).1 = 5) ∧ ∃ b20, (hR h18 a0 1 = some b20) ∧ ((hK h18 b20).1 = 1) ∧ ∃ b23, (hR h18 b20 14 = some b23) ∧ ((hK h18 b23).1 = 106) ∧ (vp_in x1 (hK h18 b23).2) ∧ ∃ b27, (hR h18 b23 x1.toNatClampNeg = some b27) ∧ ((hK h18 b27).1 = 6) ∧ Q (some (.int (hI h18 b27 9))) h18) :
    Gm l x mX5_doneIfLater 5 0 [(0, .ref a0), (1, .int x1), (2, .int x2), (3, .int x3), (4, .int x4)] [] h rc rs n0 Q X := by
  refine g_aload_n dX5_doneIfLater_0 rfl 0 rfl ?_
  refine g_iload_n dX5_doneIfLater_1 rfl 3 rfl ?_
  refine g_iload dX5_doneIfLater_2 4 rfl ?_
  obtain ⟨e3, K⟩ := K
  obtain ⟨q1, C2, K⟩ := K
  refine g_callV (M' := mX5_prepare) (b := a0) (As := [.int x3, .int x4]) (rest := []) (rc' := rc) (rs' := rs) dX5_doneIfLater_4 bw_933 bw_935 bs_31 bw_6 bw_936 ⟨by decide +kernel, by decide +kernel, show (parseMethodDescriptor mX5_prepare.1.desc).map (fun d => d.parameters.length) = some 2 by decide +kernel⟩ (by decide) (by decide) (Nat.le_of_ble_eq_true rfl) fc_5 (by decide) rfl e3 C2 (Nat.le_of_eq (Nat.add_zero _)) (Nat.le_of_eq (Nat.add_zero _)) (fun _ _ h => h) ?_
  rintro _ h4 ⟨rfl, K1⟩ -
  replace K := K h4 K1
  show Gm l x mX5_doneIfLater 5 7 [(0, .ref a0), (1, .int x1), (2, .int x2), (3, .int x3), (4, .int x4)] [] h4 rc rs n0 Q X
  refine g_aload_n dX5_doneIfLater_7 rfl 0 rfl ?_
  obtain ⟨e5, b6, e7, K⟩ := K
  refine g_get (c := 5) (k := 1) (v := .ref b6) dX5_doneIfLater_8 fc_5 (by decide) (by decide) bw_316 (congrArg pr e7) e5 ?_
  obtain ⟨e8, b9, e10, K⟩ := K
  refine g_get (c := 1) (k := 14) (v := .ref b9) dX5_doneIfLater_11 fc_1 (by decide) (by decide) bw_227 (congrArg pr e10) e8 ?_
  refine g_iload_n dX5_doneIfLater_14 rfl 1 rfl ?_
  obtain ⟨e11, e12, b13, e14, K⟩ := K
  refine g_aald (t := 6) (v := .ref b13) dX5_doneIfLater_15 (Or.inr (Or.inl rfl)) e11 e12 (congrArg pr e14) ?_
  refine g_dup dX5_doneIfLater_16 rfl ?_
  obtain ⟨e15, K⟩ := K
  refine g_get (c := 6) (k := 1) (v := .int (hI h4 b13 1)) dX5_doneIfLater_17 fc_6 (by decide) (by decide) bw_136 rfl e15 ?_
  refine g_iload_n dX5_doneIfLater_20 rfl 2 rfl ?_
  refine g_iadd dX5_doneIfLater_21 ?_
  refine g_puti (c := 6) (k := 1) dX5_doneIfLater_22 fc_6 (by decide) (by decide) bw_136 (Or.inl rfl) rfl e15 ?_
  refine g_aload_n dX5_doneIfLater_25 rfl 0 rfl ?_
  refine g_get (c := 5) (k := 1) (v := .ref b6) dX5_doneIfLater_26 fc_5 (by decide) (by decide) bw_316 (congrArg pr (krI e7)) (kkI e5) ?_
  refine g_sipush (v := 200) dX5_doneIfLater_29 (by decide) ?_
  obtain ⟨q16, C17, K⟩ := K
  refine g_callV (M' := mX1_pass) (b := b6) (As := [.int 200]) (rest := []) (rc' := rc) (rs' := rs) dX5_doneIfLater_32 bw_937 bw_466 bw_467 bw_3 bw_468 ⟨by decide +kernel, by decide +kernel, show (parseMethodDescriptor mX1_pass.1.desc).map (fun d => d.parameters.length) = some 1 by decide +kernel⟩ (by decide) (by decide) (Nat.le_of_ble_eq_true rfl) fc_1 (by decide) rfl (kkI e8) C17 (Nat.le_of_eq (Nat.add_zero _)) (Nat.le_of_eq (Nat.add_zero _)) (fun _ _ h => h) ?_
  rintro _ h18 ⟨rfl, K1⟩ -
  replace K := K h18 K1
  show Gm l x mX5_doneIfLater 5 35 [(0, .ref a0), (1, .int x1), (2, .int x2), (3, .int x3), (4, .int x4)] [] h18 rc rs n0 Q X
  refine g_aload_n dX5_doneIfLater_35 rfl 0 rfl ?_
  obtain ⟨e19, b20, e21, K⟩ := K
  refine g_get (c := 5) (k := 1) (v := .ref b20) dX5_doneIfLater_36 fc_5 (by decide) (by decide) bw_316 (congrArg pr e21) e19 ?_
  obtain ⟨e22, b23, e24, K⟩ := K
  refine g_get (c := 1) (k := 14) (v := .ref b23) dX5_doneIfLater_39 fc_1 (by decide) (by decide) bw_227 (congrArg pr e24) e22 ?_
  refine g_iload_n dX5_doneIfLater_42 rfl 1 rfl ?_
  obtain ⟨e25, e26, b27, e28, K⟩ := K
  refine g_aald (t := 6) (v := .ref b27) dX5_doneIfLater_43 (Or.inr (Or.inl rfl)) e25 e26 (congrArg pr e28) ?_
  obtain ⟨e29, K⟩ := K
  refine g_get (c := 6) (k := 9) (v := .int (hI h18 b27 9)) dX5_doneIfLater_44 fc_6 (by decide) (by decide) bw_161 rfl e29 ?_
  exact g_iret dX5_doneIfLater_47 rfl K
theorem dX5_best_0 : decode cX5_best 0 = .ok (.iconst 0, 1) := by decide +kernel
theorem dX5_best_1 : decode cX5_best 1 = .ok (.istore_n 2, 1) := by decide +kernel
theorem dX5_best_2 : decode cX5_best 2 = .ok (.iconst 1, 1) := by decide +kernel
theorem dX5_best_3 : decode cX5_best 3 = .ok (.istore_n 3, 1) := by decide +kernel
theorem dX5_best_4 : decode cX5_best 4 = .ok (.iload_n 3, 1) := by decide +kernel
theorem dX5_best_5 : decode cX5_best 5 = .ok (.iconst 3, 1) := by decide +kernel
theorem dX5_best_6 : decode cX5_best 6 = .ok (.if_icmp .ge 36, 3) := by decide +kernel
theorem dX5_best_9 : decode cX5_best 9 = .ok (.aload_n 0, 1) := by decide +kernel
theorem dX5_best_10 : decode cX5_best 10 = .ok (.getfield 25, 3) := by decide +kernel
theorem dX5_best_13 : decode cX5_best 13 = .ok (.aload_n 0, 1) := by decide +kernel
theorem dX5_best_14 : decode cX5_best 14 = .ok (.iload_n 3, 1) := by decide +kernel
theorem dX5_best_15 : decode cX5_best 15 = .ok (.iload_n 1, 1) := by decide +kernel
theorem dX5_best_16 : decode cX5_best 16 = .ok (.invokevirtual 92, 3) := by decide +kernel
theorem dX5_best_19 : decode cX5_best 19 = .ok (.iaload, 1) := by decide +kernel
theorem dX5_best_20 : decode cX5_best 20 = .ok (.aload_n 0, 1) := by decide +kernel
theorem dX5_best_21 : decode cX5_best 21 = .ok (.getfield 25, 3) := by decide +kernel
theorem dX5_best_24 : decode cX5_best 24 = .ok (.aload_n 0, 1) := by decide +kernel
theorem dX5_best_25 : decode cX5_best 25 = .ok (.iload_n 2, 1) := by decide +kernel
theorem dX5_best_26 : decode cX5_best 26 = .ok (.iload_n 1, 1) := by decide +kernel
theorem dX5_best_27 : decode cX5_best 27 = .ok (.invokevirtual 92, 3) := by decide +kernel
theorem dX5_best_30 : decode cX5_best 30 = .ok (.iaload, 1) := by decide +kernel
theorem dX5_best_31 : decode cX5_best 31 = .ok (.if_icmp .ge 5, 3) := by decide +kernel
theorem dX5_best_34 : decode cX5_best 34 = .ok (.iload_n 3, 1) := by decide +kernel
theorem dX5_best_35 : decode cX5_best 35 = .ok (.istore_n 2, 1) := by decide +kernel
theorem dX5_best_36 : decode cX5_best 36 = .ok (.iinc 3 1, 3) := by decide +kernel
theorem dX5_best_39 : decode cX5_best 39 = .ok (.goto (-35), 3) := by decide +kernel
theorem dX5_best_42 : decode cX5_best 42 = .ok (.iload_n 2, 1) := by decide +kernel
theorem dX5_best_43 : decode cX5_best 43 = .ok (.ireturn, 1) := by decide +kernel
set_option maxRecDepth 20000 in
set_option maxHeartbeats 4000000 in
theorem vX5_best_0 {l : Launch} {x : CX} {a0 : Nat} {x1 : Int32} {h : PH} {rc rs n0 : Nat} {Q : Option Value → PH → Prop} {X : String → PH → Prop}
    (K : Gm l x mX5_best 6 4 [(0, .ref a0), (1, .int x1), (2, .int 0), (3, .int 1)] [] h rc rs n0 Q X) :
    Gm l x mX5_best 6 0 [(0, .ref a0), (1, .int x1)] [] h rc rs n0 Q X := by
  refine g_iconst (v := 0) dX5_best_0 (by decide) ?_
  refine g_istore_n (lv' := [(0, .ref a0), (1, .int x1), (2, .int 0)]) dX5_best_1 rfl (by decide) rfl ?_
  refine g_iconst (v := 1) dX5_best_2 (by decide) ?_
  refine g_istore_n (lv' := [(0, .ref a0), (1, .int x1), (2, .int 0), (3, .int 1)]) dX5_best_3 rfl (by decide) rfl ?_
  exact K
set_option maxRecDepth 20000 in
set_option maxHeartbeats 4000000 in
theorem vX5_best_4 {l : Launch} {x : CX} {a0 : Nat} {x1 : Int32} {x2 : Int32} {x3 : Int32} {h : PH} {rc rs n0 : Nat} {Q : Option Value → PH → Prop} {X : String → PH → Prop}
    (K : ((3 ≤ x3 → Q (some (.int x2)) h) ∧ (¬ 3 ≤ x3 → ((hK h a0).1 = 5) ∧ ∃ b3, (hR h a0 3 = some b3) ∧ ∃ (q5 : Int32 → PH → Prop), CI l x mX5_run 5 0 0 [.ref a0, .int x3, .int x1] h q5 ∧ ∀ (r8 : Int32) (h7 : PH), q5 r8 h7 → ((hK h7 b3).1 = 100) ∧ (vp_in r8 (hK h7 b3).2) ∧ ((hK h7 a0).1 = 5) ∧ ∃ b12, (hR h7 a0 3 = some b12) ∧ ∃ (q14 : Int32 → PH → Prop), CI l x mX5_run 5 0 0 [.ref a0, .int x2, .int x1] h7 q14 ∧ ∀ (r17 : Int32) (h16 : PH), q14 r17 h16 → ((hK h16 b12).1 = 100) ∧ (vp_in r17 (hK h16 b12).2) ∧ Gm l x mX5_best 6 4 [(0, .ref a0), (1, .int x1), (2, .int (if (hI h16 b12 r17.toNatClampNeg) ≤ (hI h7 b3 r8.toNatClampNeg) then x2 else x3 : Int32)), (3, .int (x3 + 1))] [] h16 rc rs n0 Q X))) :
    Gm l x mX5_best 6 4 [(0, .ref a0), (1, .int x1), (2, .int x2), (3, .int x3)] [] h rc rs n0 Q X := by
  refine g_iload_n dX5_best_4 rfl 3 rfl ?_
  refine g_iconst (v := 3) dX5_best_5 (by decide) ?_
  refine g_icmp_ge (tgt := 42) dX5_best_6 (by decide) (fun c1 => ?_) (fun c1 => ?_)
  · replace K := K.1 c1
    refine g_iload_n dX5_best_42 rfl 2 rfl ?_
    exact g_iret dX5_best_43 rfl K
  · replace K := K.2 c1
    refine g_aload_n dX5_best_9 rfl 0 rfl ?_
    obtain ⟨e2, b3, e4, K⟩ := K
    refine g_get (c := 5) (k := 3) (v := .ref b3) dX5_best_10 fc_5 (by decide) (by decide) bw_318 (congrArg pr e4) e2 ?_
    refine g_aload_n dX5_best_13 rfl 0 rfl ?_
    refine g_iload_n dX5_best_14 rfl 3 rfl ?_
    refine g_iload_n dX5_best_15 rfl 1 rfl ?_
    obtain ⟨q5, C6, K⟩ := K
    refine g_callV (M' := mX5_run) (b := a0) (As := [.int x3, .int x1]) (rest := [.ref b3]) (rc' := rc) (rs' := rs) dX5_best_16 bw_929 bw_930 bw_931 bw_6 bw_932 ⟨by decide +kernel, by decide +kernel, show (parseMethodDescriptor mX5_run.1.desc).map (fun d => d.parameters.length) = some 2 by decide +kernel⟩ (by decide) (by decide) (Nat.le_of_ble_eq_true rfl) fc_5 (by decide) rfl e2 C6 (Nat.le_of_eq (Nat.add_zero _)) (Nat.le_of_eq (Nat.add_zero _)) (fun _ _ h => h) ?_
    rintro _ h7 ⟨r8, rfl, K1⟩ -
    replace K := K r8 h7 K1
    show Gm l x mX5_best 6 19 [(0, .ref a0), (1, .int x1), (2, .int x2), (3, .int x3)] [.int r8, .ref b3] h7 rc rs n0 Q X
    obtain ⟨e9, e10, K⟩ := K
    refine g_iald dX5_best_19 e9 e10 ?_
    refine g_aload_n dX5_best_20 rfl 0 rfl ?_
    obtain ⟨e11, b12, e13, K⟩ := K
    refine g_get (c := 5) (k := 3) (v := .ref b12) dX5_best_21 fc_5 (by decide) (by decide) bw_318 (congrArg pr e13) e11 ?_
    refine g_aload_n dX5_best_24 rfl 0 rfl ?_
    refine g_iload_n dX5_best_25 rfl 2 rfl ?_
    refine g_iload_n dX5_best_26 rfl 1 rfl ?_
    obtain ⟨q14, C15, K⟩ := K
    refine g_callV (M' := mX5_run) (b := a0) (As := [.int x2, .int x1]) (rest := [.ref b12, .int (hI h7 b3 r8.toNatClampNeg)]) (rc' := rc) (rs' := rs) dX5_best_27 bw_929 bw_930 bw_931 bw_6 bw_932 ⟨by decide +kernel, by decide +kernel, show (parseMethodDescriptor mX5_run.1.desc).map (fun d => d.parameters.length) = some 2 by decide +kernel⟩ (by decide) (by decide) (Nat.le_of_ble_eq_true rfl) fc_5 (by decide) rfl e11 C15 (Nat.le_of_eq (Nat.add_zero _)) (Nat.le_of_eq (Nat.add_zero _)) (fun _ _ h => h) ?_
    rintro _ h16 ⟨r17, rfl, K1⟩ -
    replace K := K r17 h16 K1
    show Gm l x mX5_best 6 30 [(0, .ref a0), (1, .int x1), (2, .int x2), (3, .int x3)] [.int r17, .ref b12, .int (hI h7 b3 r8.toNatClampNeg)] h16 rc rs n0 Q X
    obtain ⟨e18, e19, K⟩ := K
    refine g_iald dX5_best_30 e18 e19 ?_
    have KJ : Gm l x mX5_best 6 36 [(0, .ref a0), (1, .int x1), (2, .int (if (hI h16 b12 r17.toNatClampNeg) ≤ (hI h7 b3 r8.toNatClampNeg) then x2 else x3 : Int32)), (3, .int x3)] [] h16 rc rs n0 Q X := by
      refine g_iinc (v := (x3 + 1)) (lv' := [(0, .ref a0), (1, .int x1), (2, .int (if (hI h16 b12 r17.toNatClampNeg) ≤ (hI h7 b3 r8.toNatClampNeg) then x2 else x3 : Int32)), (3, .int (x3 + 1))]) dX5_best_36 3 rfl (by rfl) (by decide) rfl ?_
      refine g_goto (tgt := 4) dX5_best_39 (by decide) ?_
      exact K
    refine g_icmp_ge (tgt := 36) dX5_best_31 (by decide) (fun c20 => ?_) (fun c20 => ?_)
    · first | (simp only [if_pos c20] at KJ; exact KJ) | (simp only [if_pos c20, ite_true, ite_false, eq_self] at KJ; exact KJ) | (simp only [if_pos c20] at KJ ⊢; exact KJ) | exact KJ
    · refine g_iload_n dX5_best_34 rfl 3 rfl ?_
      refine g_istore_n (lv' := [(0, .ref a0), (1, .int x1), (2, .int x3), (3, .int x3)]) dX5_best_35 rfl (by decide) rfl ?_
      first | (simp only [if_neg c20] at KJ; exact KJ) | (simp only [if_neg c20, ite_true, ite_false, eq_self] at KJ; exact KJ) | (simp only [if_neg c20] at KJ ⊢; exact KJ) | exact KJ
theorem dX5_thrift_0 : decode cX5_thrift 0 = .ok (.iconst 0, 1) := by decide +kernel
theorem dX5_thrift_1 : decode cX5_thrift 1 = .ok (.istore_n 2, 1) := by decide +kernel
theorem dX5_thrift_2 : decode cX5_thrift 2 = .ok (.iconst 1, 1) := by decide +kernel
theorem dX5_thrift_3 : decode cX5_thrift 3 = .ok (.istore_n 3, 1) := by decide +kernel
theorem dX5_thrift_4 : decode cX5_thrift 4 = .ok (.iload_n 3, 1) := by decide +kernel
theorem dX5_thrift_5 : decode cX5_thrift 5 = .ok (.iconst 3, 1) := by decide +kernel
theorem dX5_thrift_6 : decode cX5_thrift 6 = .ok (.if_icmp .ge 37, 3) := by decide +kernel
theorem dX5_thrift_9 : decode cX5_thrift 9 = .ok (.aload_n 0, 1) := by decide +kernel
theorem dX5_thrift_10 : decode cX5_thrift 10 = .ok (.getfield 38, 3) := by decide +kernel
theorem dX5_thrift_13 : decode cX5_thrift 13 = .ok (.aload_n 0, 1) := by decide +kernel
theorem dX5_thrift_14 : decode cX5_thrift 14 = .ok (.iload_n 3, 1) := by decide +kernel
theorem dX5_thrift_15 : decode cX5_thrift 15 = .ok (.iload_n 1, 1) := by decide +kernel
theorem dX5_thrift_16 : decode cX5_thrift 16 = .ok (.invokevirtual 92, 3) := by decide +kernel
theorem dX5_thrift_19 : decode cX5_thrift 19 = .ok (.faload, 1) := by decide +kernel
theorem dX5_thrift_20 : decode cX5_thrift 20 = .ok (.aload_n 0, 1) := by decide +kernel
theorem dX5_thrift_21 : decode cX5_thrift 21 = .ok (.getfield 38, 3) := by decide +kernel
theorem dX5_thrift_24 : decode cX5_thrift 24 = .ok (.aload_n 0, 1) := by decide +kernel
theorem dX5_thrift_25 : decode cX5_thrift 25 = .ok (.iload_n 2, 1) := by decide +kernel
theorem dX5_thrift_26 : decode cX5_thrift 26 = .ok (.iload_n 1, 1) := by decide +kernel
theorem dX5_thrift_27 : decode cX5_thrift 27 = .ok (.invokevirtual 92, 3) := by decide +kernel
theorem dX5_thrift_30 : decode cX5_thrift 30 = .ok (.faload, 1) := by decide +kernel
theorem dX5_thrift_31 : decode cX5_thrift 31 = .ok (.fcmp .g, 1) := by decide +kernel
theorem dX5_thrift_32 : decode cX5_thrift 32 = .ok (.ifCond .ge 5, 3) := by decide +kernel
theorem dX5_thrift_35 : decode cX5_thrift 35 = .ok (.iload_n 3, 1) := by decide +kernel
theorem dX5_thrift_36 : decode cX5_thrift 36 = .ok (.istore_n 2, 1) := by decide +kernel
theorem dX5_thrift_37 : decode cX5_thrift 37 = .ok (.iinc 3 1, 3) := by decide +kernel
theorem dX5_thrift_40 : decode cX5_thrift 40 = .ok (.goto (-36), 3) := by decide +kernel
theorem dX5_thrift_43 : decode cX5_thrift 43 = .ok (.iload_n 2, 1) := by decide +kernel
theorem dX5_thrift_44 : decode cX5_thrift 44 = .ok (.ireturn, 1) := by decide +kernel
set_option maxRecDepth 20000 in
set_option maxHeartbeats 4000000 in
theorem vX5_thrift_0 {l : Launch} {x : CX} {a0 : Nat} {x1 : Int32} {h : PH} {rc rs n0 : Nat} {Q : Option Value → PH → Prop} {X : String → PH → Prop}
    (K : Gm l x mX5_thrift 6 4 [(0, .ref a0), (1, .int x1), (2, .int 0), (3, .int 1)] [] h rc rs n0 Q X) :
    Gm l x mX5_thrift 6 0 [(0, .ref a0), (1, .int x1)] [] h rc rs n0 Q X := by
  refine g_iconst (v := 0) dX5_thrift_0 (by decide) ?_
  refine g_istore_n (lv' := [(0, .ref a0), (1, .int x1), (2, .int 0)]) dX5_thrift_1 rfl (by decide) rfl ?_
  refine g_iconst (v := 1) dX5_thrift_2 (by decide) ?_
  refine g_istore_n (lv' := [(0, .ref a0), (1, .int x1), (2, .int 0), (3, .int 1)]) dX5_thrift_3 rfl (by decide) rfl ?_
  exact K
set_option maxRecDepth 20000 in
set_option maxHeartbeats 4000000 in
theorem vX5_thrift_4 {l : Launch} {x : CX} {a0 : Nat} {x1 : Int32} {x2 : Int32} {x3 : Int32} {h : PH} {rc rs n0 : Nat} {Q : Option Value → PH → Prop} {X : String → PH → Prop}
    (K : ((3 ≤ x3 → Q (some (.int x2)) h) ∧ (¬ 3 ≤ x3 → ((hK h a0).1 = 5) ∧ ∃ b3, (hR h a0 7 = some b3) ∧ ∃ (q5 : Int32 → PH → Prop), CI l x mX5_run 5 0 0 [.ref a0, .int x3, .int x1] h q5 ∧ ∀ (r8 : Int32) (h7 : PH), q5 r8 h7 → ((hK h7 b3).1 = 103) ∧ (vp_in r8 (hK h7 b3).2) ∧ ((hK h7 a0).1 = 5) ∧ ∃ b12, (hR h7 a0 7 = some b12) ∧ ∃ (q14 : Int32 → PH → Prop), CI l x mX5_run 5 0 0 [.ref a0, .int x2, .int x1] h7 q14 ∧ ∀ (r17 : Int32) (h16 : PH), q14 r17 h16 → ((hK h16 b12).1 = 103) ∧ (vp_in r17 (hK h16 b12).2) ∧ Gm l x mX5_thrift 6 4 [(0, .ref a0), (1, .int x1), (2, .int (if 0 ≤ (Op.cmpValue (FP.fcmp (hF h7 b3 r8.toNatClampNeg) (hF h16 b12 r17.toNatClampNeg)) .g) then x2 else x3 : Int32)), (3, .int (x3 + 1))] [] h16 rc rs n0 Q X))) :
    Gm l x mX5_thrift 6 4 [(0, .ref a0), (1, .int x1), (2, .int x2), (3, .int x3)] [] h rc rs n0 Q X := by
  refine g_iload_n dX5_thrift_4 rfl 3 rfl ?_
  refine g_iconst (v := 3) dX5_thrift_5 (by decide) ?_
  refine g_icmp_ge (tgt := 43) dX5_thrift_6 (by decide) (fun c1 => ?_) (fun c1 => ?_)
  · replace K := K.1 c1
    refine g_iload_n dX5_thrift_43 rfl 2 rfl ?_
    exact g_iret dX5_thrift_44 rfl K
  · replace K := K.2 c1
    refine g_aload_n dX5_thrift_9 rfl 0 rfl ?_
    obtain ⟨e2, b3, e4, K⟩ := K
    refine g_get (c := 5) (k := 7) (v := .ref b3) dX5_thrift_10 fc_5 (by decide) (by decide) bw_326 (congrArg pr e4) e2 ?_
    refine g_aload_n dX5_thrift_13 rfl 0 rfl ?_
    refine g_iload_n dX5_thrift_14 rfl 3 rfl ?_
    refine g_iload_n dX5_thrift_15 rfl 1 rfl ?_
    obtain ⟨q5, C6, K⟩ := K
    refine g_callV (M' := mX5_run) (b := a0) (As := [.int x3, .int x1]) (rest := [.ref b3]) (rc' := rc) (rs' := rs) dX5_thrift_16 bw_929 bw_930 bw_931 bw_6 bw_932 ⟨by decide +kernel, by decide +kernel, show (parseMethodDescriptor mX5_run.1.desc).map (fun d => d.parameters.length) = some 2 by decide +kernel⟩ (by decide) (by decide) (Nat.le_of_ble_eq_true rfl) fc_5 (by decide) rfl e2 C6 (Nat.le_of_eq (Nat.add_zero _)) (Nat.le_of_eq (Nat.add_zero _)) (fun _ _ h => h) ?_
    rintro _ h7 ⟨r8, rfl, K1⟩ -
    replace K := K r8 h7 K1
    show Gm l x mX5_thrift 6 19 [(0, .ref a0), (1, .int x1), (2, .int x2), (3, .int x3)] [.int r8, .ref b3] h7 rc rs n0 Q X
    obtain ⟨e9, e10, K⟩ := K
    refine g_fald dX5_thrift_19 e9 e10 ?_
    refine g_aload_n dX5_thrift_20 rfl 0 rfl ?_
    obtain ⟨e11, b12, e13, K⟩ := K
    refine g_get (c := 5) (k := 7) (v := .ref b12) dX5_thrift_21 fc_5 (by decide) (by decide) bw_326 (congrArg pr e13) e11 ?_
    refine g_aload_n dX5_thrift_24 rfl 0 rfl ?_
    refine g_iload_n dX5_thrift_25 rfl 2 rfl ?_
    refine g_iload_n dX5_thrift_26 rfl 1 rfl ?_
    obtain ⟨q14, C15, K⟩ := K
    refine g_callV (M' := mX5_run) (b := a0) (As := [.int x2, .int x1]) (rest := [.ref b12, .float (hF h7 b3 r8.toNatClampNeg)]) (rc' := rc) (rs' := rs) dX5_thrift_27 bw_929 bw_930 bw_931 bw_6 bw_932 ⟨by decide +kernel, by decide +kernel, show (parseMethodDescriptor mX5_run.1.desc).map (fun d => d.parameters.length) = some 2 by decide +kernel⟩ (by decide) (by decide) (Nat.le_of_ble_eq_true rfl) fc_5 (by decide) rfl e11 C15 (Nat.le_of_eq (Nat.add_zero _)) (Nat.le_of_eq (Nat.add_zero _)) (fun _ _ h => h) ?_
    rintro _ h16 ⟨r17, rfl, K1⟩ -
    replace K := K r17 h16 K1
    show Gm l x mX5_thrift 6 30 [(0, .ref a0), (1, .int x1), (2, .int x2), (3, .int x3)] [.int r17, .ref b12, .float (hF h7 b3 r8.toNatClampNeg)] h16 rc rs n0 Q X
    obtain ⟨e18, e19, K⟩ := K
    refine g_fald dX5_thrift_30 e18 e19 ?_
    refine g_fcmp dX5_thrift_31 ?_
    have KJ : Gm l x mX5_thrift 6 37 [(0, .ref a0), (1, .int x1), (2, .int (if 0 ≤ (Op.cmpValue (FP.fcmp (hF h7 b3 r8.toNatClampNeg) (hF h16 b12 r17.toNatClampNeg)) .g) then x2 else x3 : Int32)), (3, .int x3)] [] h16 rc rs n0 Q X := by
      refine g_iinc (v := (x3 + 1)) (lv' := [(0, .ref a0), (1, .int x1), (2, .int (if 0 ≤ (Op.cmpValue (FP.fcmp (hF h7 b3 r8.toNatClampNeg) (hF h16 b12 r17.toNatClampNeg)) .g) then x2 else x3 : Int32)), (3, .int (x3 + 1))]) dX5_thrift_37 3 rfl (by rfl) (by decide) rfl ?_
      refine g_goto (tgt := 4) dX5_thrift_40 (by decide) ?_
      exact K
    refine g_if_ge (tgt := 37) dX5_thrift_32 (by decide) (fun c20 => ?_) (fun c20 => ?_)
    · first | (simp only [if_pos c20] at KJ; exact KJ) | (simp only [if_pos c20, ite_true, ite_false, eq_self] at KJ; exact KJ) | (simp only [if_pos c20] at KJ ⊢; exact KJ) | exact KJ
    · refine g_iload_n dX5_thrift_35 rfl 3 rfl ?_
      refine g_istore_n (lv' := [(0, .ref a0), (1, .int x1), (2, .int x3), (3, .int x3)]) dX5_thrift_36 rfl (by decide) rfl ?_
      first | (simp only [if_neg c20] at KJ; exact KJ) | (simp only [if_neg c20, ite_true, ite_false, eq_self] at KJ; exact KJ) | (simp only [if_neg c20] at KJ ⊢; exact KJ) | exact KJ
