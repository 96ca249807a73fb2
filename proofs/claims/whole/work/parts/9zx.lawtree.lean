/-! THE LAW'S STEPS -/
set_option maxRecDepth 20000 in
set_option maxHeartbeats 4000000 in
theorem vL_law_0 {l : Launch} {x : CX} {xL : Nat} {xs : Nat → Int32} {h : PH} {rc rs n0 : Nat} {Q : Option Value → PH → Prop} {X : String → PH → Prop} (sz : ScrOk x xL xs)
    (K : (1 ≤ rc) ∧ (7 ≤ rs) ∧ ∀ (h3 : PH), h3 = (nw h (7, 0)) → ∃ (mc6 ms7 : Nat) (q4 : PH → Prop), mc6 ≤ (rc - 1) ∧ ms7 ≤ (rs - 7) ∧ CV l x mX7_init 4 mc6 ms7 [.ref (hN h)] h3 q4 ∧ ∀ (h8 : PH), q4 h8 → (1 ≤ ((rc - 1) - mc6)) ∧ (42 ≤ ((rs - 7) - ms7)) ∧ ∀ (h11 : PH), h11 = (nw h8 (8, 0)) → ∃ (mc14 ms15 : Nat) (q12 : PH → Prop), mc14 ≤ (((rc - 1) - mc6) - 1) ∧ ms15 ≤ (((rs - 7) - ms7) - 42) ∧ CV l x mX8_init 2 mc14 ms15 [.ref (hN h8)] h11 q12 ∧ ∀ (h16 : PH), q12 h16 → (1 ≤ ((((rc - 1) - mc6) - 1) - mc14)) ∧ (1 ≤ ((((rs - 7) - ms7) - 42) - ms15)) ∧ ∀ (h19 : PH), h19 = (nw h16 (104, 1)) → Gm l x mL_law 15 23 [(0, .retAddr 999), (1, .ref (hN h)), (2, .ref (hN h8)), (3, .ref (hN h16)), (4, .int 0)] [] h19 (((((rc - 1) - mc6) - 1) - mc14) - 1) (((((rs - 7) - ms7) - 42) - ms15) - 1) n0 Q X) :
    Gm l x mL_law 15 0 [(0, .retAddr 999)] [] h rc rs n0 Q X := by
  obtain ⟨e1, e2, K⟩ := K
  refine g_new (c := 7) (rc' := (rc - 1)) (rs' := (rs - 7)) dL_law_0 fc_7 (by decide) (by decide) bw_24 bw_25 bw_1 (by omega) (show (rs - 7) + 7 ≤ rs by omega) ?_
  generalize e26 : (nw h (7, 0)) = h3
  replace K := K h3 e26.symm
  refine g_dup dL_law_3 rfl ?_
  obtain ⟨mc6, ms7, q4, e24, e25, C5, K⟩ := K
  refine g_callI (M' := mX7_init) (b := (hN h)) (As := []) (rest := [.ref (hN h)]) (rc' := ((rc - 1) - mc6)) (rs' := ((rs - 7) - ms7)) dL_law_4 bw_26 bw_27 rfl rfl bw_1 bw_28 ⟨by decide +kernel, by decide +kernel, show (parseMethodDescriptor mX7_init.1.desc).map (fun d => d.parameters.length) = some 0 by decide +kernel⟩ (by decide) (by decide) (Nat.le_of_ble_eq_true rfl) C5 (by omega) (by omega) (fun _ _ h => h) ?_
  rintro _ h8 ⟨rfl, K1⟩ -
  replace K := K h8 K1
  show Gm l x mL_law 15 7 [(0, .retAddr 999)] [.ref (hN h)] h8 ((rc - 1) - mc6) ((rs - 7) - ms7) n0 Q X
  refine g_astore_n (lv' := [(0, .retAddr 999), (1, .ref (hN h))]) dL_law_7 rfl (by decide) rfl ?_
  obtain ⟨e9, e10, K⟩ := K
  refine g_new (c := 8) (rc' := (((rc - 1) - mc6) - 1)) (rs' := (((rs - 7) - ms7) - 42)) dL_law_8 fc_8 (by decide) (by decide) bw_1164 bw_1165 bw_9 (by omega) (show (((rs - 7) - ms7) - 42) + 42 ≤ ((rs - 7) - ms7) by omega) ?_
  generalize e23 : (nw h8 (8, 0)) = h11
  replace K := K h11 e23.symm
  refine g_dup dL_law_11 rfl ?_
  obtain ⟨mc14, ms15, q12, e21, e22, C13, K⟩ := K
  refine g_callI (M' := mX8_init) (b := (hN h8)) (As := []) (rest := [.ref (hN h8)]) (rc' := ((((rc - 1) - mc6) - 1) - mc14)) (rs' := ((((rs - 7) - ms7) - 42) - ms15)) dL_law_12 bw_1166 bw_1167 rfl rfl bw_9 bw_1168 ⟨by decide +kernel, by decide +kernel, show (parseMethodDescriptor mX8_init.1.desc).map (fun d => d.parameters.length) = some 0 by decide +kernel⟩ (by decide) (by decide) (Nat.le_of_ble_eq_true rfl) C13 (by omega) (by omega) (fun _ _ h => h) ?_
  rintro _ h16 ⟨rfl, K1⟩ -
  replace K := K h16 K1
  show Gm l x mL_law 15 15 [(0, .retAddr 999), (1, .ref (hN h))] [.ref (hN h8)] h16 ((((rc - 1) - mc6) - 1) - mc14) ((((rs - 7) - ms7) - 42) - ms15) n0 Q X
  refine g_astore_n (lv' := [(0, .retAddr 999), (1, .ref (hN h)), (2, .ref (hN h8))]) dL_law_15 rfl (by decide) rfl ?_
  refine g_iconst (v := 1) dL_law_16 (by decide) ?_
  obtain ⟨e17, e18, K⟩ := K
  refine g_newa (t := 4) (rc' := (((((rc - 1) - mc6) - 1) - mc14) - 1)) (rs' := (((((rs - 7) - ms7) - 42) - ms15) - 1)) (N := 1) dL_law_17 (Or.inr (Or.inr (Or.inr (Or.inr ⟨rfl, rfl⟩)))) bw_1748 (by decide) (by decide) (by decide) (by omega) (by omega) ?_
  generalize e20 : (nw h16 (104, 1)) = h19
  replace K := K h19 e20.symm
  refine g_astore_n (lv' := [(0, .retAddr 999), (1, .ref (hN h)), (2, .ref (hN h8)), (3, .ref (hN h16))]) dL_law_19 rfl (by decide) rfl ?_
  refine g_iconst (v := 0) dL_law_20 (by decide) ?_
  refine g_istore (lv' := [(0, .retAddr 999), (1, .ref (hN h)), (2, .ref (hN h8)), (3, .ref (hN h16)), (4, .int 0)]) dL_law_21 (by decide) rfl ?_
  exact K
set_option maxRecDepth 20000 in
set_option maxHeartbeats 4000000 in
theorem vL_law_23 {l : Launch} {x : CX} {xL : Nat} {xs : Nat → Int32} {a1 : Nat} {a2 : Nat} {a3 : Nat} {x4 : Int32} {h : PH} {rc rs n0 : Nat} {Q : Option Value → PH → Prop} {X : String → PH → Prop} (sz : ScrOk x xL xs)
    (K : ((((Int32.ofNat xL) - 6) < x4 → ((1 : Int32) = 0 ∨ (1 : Int32) = 1) ∧ Q (some (.int 1)) h) ∧ (¬ ((Int32.ofNat xL) - 6) < x4 → (vp_in x4 xL) ∧ ((((xs x4.toNatClampNeg) &&& 31).toInt = 0 → Gm l x mL_law 15 164 [(0, .retAddr 999), (1, .ref a1), (2, .ref a2), (3, .ref a3), (4, .int x4)] [] h rc rs n0 Q X) ∧ (((xs x4.toNatClampNeg) &&& 31).toInt = 1 → Gm l x mL_law 15 237 [(0, .retAddr 999), (1, .ref a1), (2, .ref a2), (3, .ref a3), (4, .int x4)] [] h rc rs n0 Q X) ∧ (((xs x4.toNatClampNeg) &&& 31).toInt = 2 → Gm l x mL_law 15 293 [(0, .retAddr 999), (1, .ref a1), (2, .ref a2), (3, .ref a3), (4, .int x4)] [] h rc rs n0 Q X) ∧ (((xs x4.toNatClampNeg) &&& 31).toInt = 3 → Gm l x mL_law 15 306 [(0, .retAddr 999), (1, .ref a1), (2, .ref a2), (3, .ref a3), (4, .int x4)] [] h rc rs n0 Q X) ∧ (((xs x4.toNatClampNeg) &&& 31).toInt = 4 → Gm l x mL_law 15 362 [(0, .retAddr 999), (1, .ref a1), (2, .ref a2), (3, .ref a3), (4, .int x4)] [] h rc rs n0 Q X) ∧ (((xs x4.toNatClampNeg) &&& 31).toInt = 5 → Gm l x mL_law 15 430 [(0, .retAddr 999), (1, .ref a1), (2, .ref a2), (3, .ref a3), (4, .int x4)] [] h rc rs n0 Q X) ∧ (((xs x4.toNatClampNeg) &&& 31).toInt = 6 → Gm l x mL_law 15 498 [(0, .retAddr 999), (1, .ref a1), (2, .ref a2), (3, .ref a3), (4, .int x4)] [] h rc rs n0 Q X) ∧ (((xs x4.toNatClampNeg) &&& 31).toInt = 7 → Gm l x mL_law 15 594 [(0, .retAddr 999), (1, .ref a1), (2, .ref a2), (3, .ref a3), (4, .int x4)] [] h rc rs n0 Q X) ∧ (((xs x4.toNatClampNeg) &&& 31).toInt = 8 → Gm l x mL_law 15 702 [(0, .retAddr 999), (1, .ref a1), (2, .ref a2), (3, .ref a3), (4, .int x4)] [] h rc rs n0 Q X) ∧ (((xs x4.toNatClampNeg) &&& 31).toInt = 9 → Gm l x mL_law 15 727 [(0, .retAddr 999), (1, .ref a1), (2, .ref a2), (3, .ref a3), (4, .int x4)] [] h rc rs n0 Q X) ∧ (((xs x4.toNatClampNeg) &&& 31).toInt = 10 → Gm l x mL_law 15 776 [(0, .retAddr 999), (1, .ref a1), (2, .ref a2), (3, .ref a3), (4, .int x4)] [] h rc rs n0 Q X) ∧ (((xs x4.toNatClampNeg) &&& 31).toInt = 11 → Gm l x mL_law 15 829 [(0, .retAddr 999), (1, .ref a1), (2, .ref a2), (3, .ref a3), (4, .int x4)] [] h rc rs n0 Q X) ∧ (((xs x4.toNatClampNeg) &&& 31).toInt = 12 → Gm l x mL_law 15 870 [(0, .retAddr 999), (1, .ref a1), (2, .ref a2), (3, .ref a3), (4, .int x4)] [] h rc rs n0 Q X) ∧ (((xs x4.toNatClampNeg) &&& 31).toInt = 13 → Gm l x mL_law 15 907 [(0, .retAddr 999), (1, .ref a1), (2, .ref a2), (3, .ref a3), (4, .int x4)] [] h rc rs n0 Q X) ∧ (((xs x4.toNatClampNeg) &&& 31).toInt = 14 → Gm l x mL_law 15 920 [(0, .retAddr 999), (1, .ref a1), (2, .ref a2), (3, .ref a3), (4, .int x4)] [] h rc rs n0 Q X) ∧ (((xs x4.toNatClampNeg) &&& 31).toInt = 15 → Gm l x mL_law 15 988 [(0, .retAddr 999), (1, .ref a1), (2, .ref a2), (3, .ref a3), (4, .int x4)] [] h rc rs n0 Q X) ∧ (((xs x4.toNatClampNeg) &&& 31).toInt = 16 → Gm l x mL_law 15 1044 [(0, .retAddr 999), (1, .ref a1), (2, .ref a2), (3, .ref a3), (4, .int x4)] [] h rc rs n0 Q X) ∧ (((xs x4.toNatClampNeg) &&& 31).toInt = 17 → Gm l x mL_law 15 1112 [(0, .retAddr 999), (1, .ref a1), (2, .ref a2), (3, .ref a3), (4, .int x4)] [] h rc rs n0 Q X) ∧ (((xs x4.toNatClampNeg) &&& 31).toInt = 18 → Gm l x mL_law 15 1192 [(0, .retAddr 999), (1, .ref a1), (2, .ref a2), (3, .ref a3), (4, .int x4)] [] h rc rs n0 Q X) ∧ (((xs x4.toNatClampNeg) &&& 31).toInt = 19 → Gm l x mL_law 15 1260 [(0, .retAddr 999), (1, .ref a1), (2, .ref a2), (3, .ref a3), (4, .int x4)] [] h rc rs n0 Q X) ∧ (((xs x4.toNatClampNeg) &&& 31).toInt = 20 → Gm l x mL_law 15 1316 [(0, .retAddr 999), (1, .ref a1), (2, .ref a2), (3, .ref a3), (4, .int x4)] [] h rc rs n0 Q X) ∧ (((xs x4.toNatClampNeg) &&& 31).toInt = 21 → Gm l x mL_law 15 1353 [(0, .retAddr 999), (1, .ref a1), (2, .ref a2), (3, .ref a3), (4, .int x4)] [] h rc rs n0 Q X) ∧ (((xs x4.toNatClampNeg) &&& 31).toInt = 22 → Gm l x mL_law 15 1409 [(0, .retAddr 999), (1, .ref a1), (2, .ref a2), (3, .ref a3), (4, .int x4)] [] h rc rs n0 Q X) ∧ (((xs x4.toNatClampNeg) &&& 31).toInt = 23 → Gm l x mL_law 15 1465 [(0, .retAddr 999), (1, .ref a1), (2, .ref a2), (3, .ref a3), (4, .int x4)] [] h rc rs n0 Q X) ∧ (((xs x4.toNatClampNeg) &&& 31).toInt = 24 → Gm l x mL_law 15 1476 [(0, .retAddr 999), (1, .ref a1), (2, .ref a2), (3, .ref a3), (4, .int x4)] [] h rc rs n0 Q X) ∧ (((xs x4.toNatClampNeg) &&& 31).toInt = 25 → Gm l x mL_law 15 1556 [(0, .retAddr 999), (1, .ref a1), (2, .ref a2), (3, .ref a3), (4, .int x4)] [] h rc rs n0 Q X) ∧ (((xs x4.toNatClampNeg) &&& 31).toInt = 26 → Gm l x mL_law 15 1567 [(0, .retAddr 999), (1, .ref a1), (2, .ref a2), (3, .ref a3), (4, .int x4)] [] h rc rs n0 Q X) ∧ ((((xs x4.toNatClampNeg) &&& 31).toInt < 0 ∨ 26 < ((xs x4.toNatClampNeg) &&& 31).toInt) → Gm l x mL_law 15 1580 [(0, .retAddr 999), (1, .ref a1), (2, .ref a2), (3, .ref a3), (4, .int x4)] [] h rc rs n0 Q X))))) :
    Gm l x mL_law 15 23 [(0, .retAddr 999), (1, .ref a1), (2, .ref a2), (3, .ref a3), (4, .int x4)] [] h rc rs n0 Q X := by
  refine g_iload dL_law_23 4 rfl ?_
  refine g_aload_nT dL_law_25 rfl 0 rfl ?_
  refine g_slen (xs := xs) dL_law_26 sz ?_
  refine g_bipush (v := 6) dL_law_27 (by decide) ?_
  refine g_isub dL_law_29 ?_
  refine g_icmp_gt (tgt := 1586) dL_law_30 (by decide) (fun c1 => ?_) (fun c1 => ?_)
  · replace K := K.1 c1
    refine g_iconst (v := 1) dL_law_1586 (by decide) ?_
    exact g_zret dL_law_1587 rfl K.1 K.2
  · replace K := K.2 c1
    refine g_aload_nT dL_law_33 rfl 0 rfl ?_
    refine g_iload dL_law_34 4 rfl ?_
    obtain ⟨e2, K⟩ := K
    refine g_sld (xs := xs) dL_law_36 sz e2 ?_
    refine g_bipush (v := 31) dL_law_37 (by decide) ?_
    refine g_iand dL_law_39 ?_
    by_cases e3 : 0 ≤ ((xs x4.toNatClampNeg) &&& 31).toInt ∧ ((xs x4.toNatClampNeg) &&& 31).toInt ≤ 26
    · have e_or : ((xs x4.toNatClampNeg) &&& 31).toInt = 0 ∨ ((xs x4.toNatClampNeg) &&& 31).toInt = 1 ∨ ((xs x4.toNatClampNeg) &&& 31).toInt = 2 ∨ ((xs x4.toNatClampNeg) &&& 31).toInt = 3 ∨ ((xs x4.toNatClampNeg) &&& 31).toInt = 4 ∨ ((xs x4.toNatClampNeg) &&& 31).toInt = 5 ∨ ((xs x4.toNatClampNeg) &&& 31).toInt = 6 ∨ ((xs x4.toNatClampNeg) &&& 31).toInt = 7 ∨ ((xs x4.toNatClampNeg) &&& 31).toInt = 8 ∨ ((xs x4.toNatClampNeg) &&& 31).toInt = 9 ∨ ((xs x4.toNatClampNeg) &&& 31).toInt = 10 ∨ ((xs x4.toNatClampNeg) &&& 31).toInt = 11 ∨ ((xs x4.toNatClampNeg) &&& 31).toInt = 12 ∨ ((xs x4.toNatClampNeg) &&& 31).toInt = 13 ∨ ((xs x4.toNatClampNeg) &&& 31).toInt = 14 ∨ ((xs x4.toNatClampNeg) &&& 31).toInt = 15 ∨ ((xs x4.toNatClampNeg) &&& 31).toInt = 16 ∨ ((xs x4.toNatClampNeg) &&& 31).toInt = 17 ∨ ((xs x4.toNatClampNeg) &&& 31).toInt = 18 ∨ ((xs x4.toNatClampNeg) &&& 31).toInt = 19 ∨ ((xs x4.toNatClampNeg) &&& 31).toInt = 20 ∨ ((xs x4.toNatClampNeg) &&& 31).toInt = 21 ∨ ((xs x4.toNatClampNeg) &&& 31).toInt = 22 ∨ ((xs x4.toNatClampNeg) &&& 31).toInt = 23 ∨ ((xs x4.toNatClampNeg) &&& 31).toInt = 24 ∨ ((xs x4.toNatClampNeg) &&& 31).toInt = 25 ∨ ((xs x4.toNatClampNeg) &&& 31).toInt = 26 := by omega
      rcases e_or with e_s | e_s | e_s | e_s | e_s | e_s | e_s | e_s | e_s | e_s | e_s | e_s | e_s | e_s | e_s | e_s | e_s | e_s | e_s | e_s | e_s | e_s | e_s | e_s | e_s | e_s | e_s
      · replace K := K.1 e_s
        refine g_tableIn (off := 124) (tgt := 164) dL_law_40 (by omega) (by omega) (by rw [e_s]; rfl) (by decide) ?_
        exact K
      · replace K := K.2.1 e_s
        refine g_tableIn (off := 197) (tgt := 237) dL_law_40 (by omega) (by omega) (by rw [e_s]; rfl) (by decide) ?_
        exact K
      · replace K := K.2.2.1 e_s
        refine g_tableIn (off := 253) (tgt := 293) dL_law_40 (by omega) (by omega) (by rw [e_s]; rfl) (by decide) ?_
        exact K
      · replace K := K.2.2.2.1 e_s
        refine g_tableIn (off := 266) (tgt := 306) dL_law_40 (by omega) (by omega) (by rw [e_s]; rfl) (by decide) ?_
        exact K
      · replace K := K.2.2.2.2.1 e_s
        refine g_tableIn (off := 322) (tgt := 362) dL_law_40 (by omega) (by omega) (by rw [e_s]; rfl) (by decide) ?_
        exact K
      · replace K := K.2.2.2.2.2.1 e_s
        refine g_tableIn (off := 390) (tgt := 430) dL_law_40 (by omega) (by omega) (by rw [e_s]; rfl) (by decide) ?_
        exact K
      · replace K := K.2.2.2.2.2.2.1 e_s
        refine g_tableIn (off := 458) (tgt := 498) dL_law_40 (by omega) (by omega) (by rw [e_s]; rfl) (by decide) ?_
        exact K
      · replace K := K.2.2.2.2.2.2.2.1 e_s
        refine g_tableIn (off := 554) (tgt := 594) dL_law_40 (by omega) (by omega) (by rw [e_s]; rfl) (by decide) ?_
        exact K
      · replace K := K.2.2.2.2.2.2.2.2.1 e_s
        refine g_tableIn (off := 662) (tgt := 702) dL_law_40 (by omega) (by omega) (by rw [e_s]; rfl) (by decide) ?_
        exact K
      · replace K := K.2.2.2.2.2.2.2.2.2.1 e_s
        refine g_tableIn (off := 687) (tgt := 727) dL_law_40 (by omega) (by omega) (by rw [e_s]; rfl) (by decide) ?_
        exact K
      · replace K := K.2.2.2.2.2.2.2.2.2.2.1 e_s
        refine g_tableIn (off := 736) (tgt := 776) dL_law_40 (by omega) (by omega) (by rw [e_s]; rfl) (by decide) ?_
        exact K
      · replace K := K.2.2.2.2.2.2.2.2.2.2.2.1 e_s
        refine g_tableIn (off := 789) (tgt := 829) dL_law_40 (by omega) (by omega) (by rw [e_s]; rfl) (by decide) ?_
        exact K
      · replace K := K.2.2.2.2.2.2.2.2.2.2.2.2.1 e_s
        refine g_tableIn (off := 830) (tgt := 870) dL_law_40 (by omega) (by omega) (by rw [e_s]; rfl) (by decide) ?_
        exact K
      · replace K := K.2.2.2.2.2.2.2.2.2.2.2.2.2.1 e_s
        refine g_tableIn (off := 867) (tgt := 907) dL_law_40 (by omega) (by omega) (by rw [e_s]; rfl) (by decide) ?_
        exact K
      · replace K := K.2.2.2.2.2.2.2.2.2.2.2.2.2.2.1 e_s
        refine g_tableIn (off := 880) (tgt := 920) dL_law_40 (by omega) (by omega) (by rw [e_s]; rfl) (by decide) ?_
        exact K
      · replace K := K.2.2.2.2.2.2.2.2.2.2.2.2.2.2.2.1 e_s
        refine g_tableIn (off := 948) (tgt := 988) dL_law_40 (by omega) (by omega) (by rw [e_s]; rfl) (by decide) ?_
        exact K
      · replace K := K.2.2.2.2.2.2.2.2.2.2.2.2.2.2.2.2.1 e_s
        refine g_tableIn (off := 1004) (tgt := 1044) dL_law_40 (by omega) (by omega) (by rw [e_s]; rfl) (by decide) ?_
        exact K
      · replace K := K.2.2.2.2.2.2.2.2.2.2.2.2.2.2.2.2.2.1 e_s
        refine g_tableIn (off := 1072) (tgt := 1112) dL_law_40 (by omega) (by omega) (by rw [e_s]; rfl) (by decide) ?_
        exact K
      · replace K := K.2.2.2.2.2.2.2.2.2.2.2.2.2.2.2.2.2.2.1 e_s
        refine g_tableIn (off := 1152) (tgt := 1192) dL_law_40 (by omega) (by omega) (by rw [e_s]; rfl) (by decide) ?_
        exact K
      · replace K := K.2.2.2.2.2.2.2.2.2.2.2.2.2.2.2.2.2.2.2.1 e_s
        refine g_tableIn (off := 1220) (tgt := 1260) dL_law_40 (by omega) (by omega) (by rw [e_s]; rfl) (by decide) ?_
        exact K
      · replace K := K.2.2.2.2.2.2.2.2.2.2.2.2.2.2.2.2.2.2.2.2.1 e_s
        refine g_tableIn (off := 1276) (tgt := 1316) dL_law_40 (by omega) (by omega) (by rw [e_s]; rfl) (by decide) ?_
        exact K
      · replace K := K.2.2.2.2.2.2.2.2.2.2.2.2.2.2.2.2.2.2.2.2.2.1 e_s
        refine g_tableIn (off := 1313) (tgt := 1353) dL_law_40 (by omega) (by omega) (by rw [e_s]; rfl) (by decide) ?_
        exact K
      · replace K := K.2.2.2.2.2.2.2.2.2.2.2.2.2.2.2.2.2.2.2.2.2.2.1 e_s
        refine g_tableIn (off := 1369) (tgt := 1409) dL_law_40 (by omega) (by omega) (by rw [e_s]; rfl) (by decide) ?_
        exact K
      · replace K := K.2.2.2.2.2.2.2.2.2.2.2.2.2.2.2.2.2.2.2.2.2.2.2.1 e_s
        refine g_tableIn (off := 1425) (tgt := 1465) dL_law_40 (by omega) (by omega) (by rw [e_s]; rfl) (by decide) ?_
        exact K
      · replace K := K.2.2.2.2.2.2.2.2.2.2.2.2.2.2.2.2.2.2.2.2.2.2.2.2.1 e_s
        refine g_tableIn (off := 1436) (tgt := 1476) dL_law_40 (by omega) (by omega) (by rw [e_s]; rfl) (by decide) ?_
        exact K
      · replace K := K.2.2.2.2.2.2.2.2.2.2.2.2.2.2.2.2.2.2.2.2.2.2.2.2.2.1 e_s
        refine g_tableIn (off := 1516) (tgt := 1556) dL_law_40 (by omega) (by omega) (by rw [e_s]; rfl) (by decide) ?_
        exact K
      · replace K := K.2.2.2.2.2.2.2.2.2.2.2.2.2.2.2.2.2.2.2.2.2.2.2.2.2.2.1 e_s
        refine g_tableIn (off := 1527) (tgt := 1567) dL_law_40 (by omega) (by omega) (by rw [e_s]; rfl) (by decide) ?_
        exact K
    · replace K := K.2.2.2.2.2.2.2.2.2.2.2.2.2.2.2.2.2.2.2.2.2.2.2.2.2.2.2 (by omega)
      refine g_tableOut (tgt := 1580) dL_law_40 (by omega) (by decide) ?_
      exact K
set_option maxRecDepth 20000 in
set_option maxHeartbeats 4000000 in
theorem vL_law_164 {l : Launch} {x : CX} {xL : Nat} {xs : Nat → Int32} {a1 : Nat} {a2 : Nat} {a3 : Nat} {x4 : Int32} {h : PH} {rc rs n0 : Nat} {Q : Option Value → PH → Prop} {X : String → PH → Prop} (sz : ScrOk x xL xs)
    (K : (vp_in (x4 + 1) xL) ∧ (vp_in (x4 + 2) xL) ∧ (vp_in (x4 + 3) xL) ∧ (vp_in (x4 + 4) xL) ∧ (vp_in (x4 + 5) xL) ∧ ((hK h a1).1 = 7) ∧ ∃ (q6 : Int32 → PH → Prop), CI l x mX7_feed 1 0 0 [.ref a1, .int (xs (x4 + 1).toNatClampNeg), .int (xs (x4 + 2).toNatClampNeg), .int (xs (x4 + 3).toNatClampNeg), .int (xs (x4 + 4).toNatClampNeg), .int (xs (x4 + 5).toNatClampNeg)] h q6 ∧ ∀ (r10 : Int32) (h9 : PH), q6 r10 h9 → (vp_in (x4 + 1) xL) ∧ (vp_in (x4 + 2) xL) ∧ (vp_in (x4 + 3) xL) ∧ (vp_in (x4 + 4) xL) ∧ (vp_in (x4 + 5) xL) ∧ ((hK h9 a2).1 = 8) ∧ ∃ (q16 : Int32 → PH → Prop), CI l x mX8_feed 0 0 0 [.ref a2, .int (xs (x4 + 1).toNatClampNeg), .int (xs (x4 + 2).toNatClampNeg), .int (xs (x4 + 3).toNatClampNeg), .int (xs (x4 + 4).toNatClampNeg), .int (xs (x4 + 5).toNatClampNeg)] h9 q16 ∧ ∀ (r20 : Int32) (h19 : PH), q16 r20 h19 → ((r10 = r20 → Gm l x mL_law 15 1580 [(0, .retAddr 999), (1, .ref a1), (2, .ref a2), (3, .ref a3), (4, .int x4)] [] h19 rc rs n0 Q X) ∧ (¬ r10 = r20 → ((0 : Int32) = 0 ∨ (0 : Int32) = 1) ∧ Q (some (.int 0)) h19))) :
    Gm l x mL_law 15 164 [(0, .retAddr 999), (1, .ref a1), (2, .ref a2), (3, .ref a3), (4, .int x4)] [] h rc rs n0 Q X := by
  refine g_aload_n dL_law_164 rfl 1 rfl ?_
  refine g_aload_nT dL_law_165 rfl 0 rfl ?_
  refine g_iload dL_law_166 4 rfl ?_
  refine g_iconst (v := 1) dL_law_168 (by decide) ?_
  refine g_iadd dL_law_169 ?_
  obtain ⟨e1, K⟩ := K
  refine g_sld (xs := xs) dL_law_170 sz e1 ?_
  refine g_aload_nT dL_law_171 rfl 0 rfl ?_
  refine g_iload dL_law_172 4 rfl ?_
  refine g_iconst (v := 2) dL_law_174 (by decide) ?_
  refine g_iadd dL_law_175 ?_
  obtain ⟨e2, K⟩ := K
  refine g_sld (xs := xs) dL_law_176 sz e2 ?_
  refine g_aload_nT dL_law_177 rfl 0 rfl ?_
  refine g_iload dL_law_178 4 rfl ?_
  refine g_iconst (v := 3) dL_law_180 (by decide) ?_
  refine g_iadd dL_law_181 ?_
  obtain ⟨e3, K⟩ := K
  refine g_sld (xs := xs) dL_law_182 sz e3 ?_
  refine g_aload_nT dL_law_183 rfl 0 rfl ?_
  refine g_iload dL_law_184 4 rfl ?_
  refine g_iconst (v := 4) dL_law_186 (by decide) ?_
  refine g_iadd dL_law_187 ?_
  obtain ⟨e4, K⟩ := K
  refine g_sld (xs := xs) dL_law_188 sz e4 ?_
  refine g_aload_nT dL_law_189 rfl 0 rfl ?_
  refine g_iload dL_law_190 4 rfl ?_
  refine g_iconst (v := 5) dL_law_192 (by decide) ?_
  refine g_iadd dL_law_193 ?_
  obtain ⟨e5, K⟩ := K
  refine g_sld (xs := xs) dL_law_194 sz e5 ?_
  obtain ⟨e8, K⟩ := K
  obtain ⟨q6, C7, K⟩ := K
  refine g_callV (M' := mX7_feed) (b := a1) (As := [.int (xs (x4 + 1).toNatClampNeg), .int (xs (x4 + 2).toNatClampNeg), .int (xs (x4 + 3).toNatClampNeg), .int (xs (x4 + 4).toNatClampNeg), .int (xs (x4 + 5).toNatClampNeg)]) (rest := []) (rc' := rc) (rs' := rs) dL_law_195 bw_424 bw_425 bw_426 bw_1 bw_427 ⟨by decide +kernel, by decide +kernel, show (parseMethodDescriptor mX7_feed.1.desc).map (fun d => d.parameters.length) = some 5 by decide +kernel⟩ (by decide) (by decide) (Nat.le_of_ble_eq_true rfl) fc_7 (by decide) rfl e8 C7 (Nat.le_of_eq (Nat.add_zero _)) (Nat.le_of_eq (Nat.add_zero _)) (fun _ _ h => h) ?_
  rintro _ h9 ⟨r10, rfl, K1⟩ -
  replace K := K r10 h9 K1
  show Gm l x mL_law 15 198 [(0, .retAddr 999), (1, .ref a1), (2, .ref a2), (3, .ref a3), (4, .int x4)] [.int r10] h9 rc rs n0 Q X
  refine g_aload_n dL_law_198 rfl 2 rfl ?_
  refine g_aload_nT dL_law_199 rfl 0 rfl ?_
  refine g_iload dL_law_200 4 rfl ?_
  refine g_iconst (v := 1) dL_law_202 (by decide) ?_
  refine g_iadd dL_law_203 ?_
  obtain ⟨e11, K⟩ := K
  refine g_sld (xs := xs) dL_law_204 sz e11 ?_
  refine g_aload_nT dL_law_205 rfl 0 rfl ?_
  refine g_iload dL_law_206 4 rfl ?_
  refine g_iconst (v := 2) dL_law_208 (by decide) ?_
  refine g_iadd dL_law_209 ?_
  obtain ⟨e12, K⟩ := K
  refine g_sld (xs := xs) dL_law_210 sz e12 ?_
  refine g_aload_nT dL_law_211 rfl 0 rfl ?_
  refine g_iload dL_law_212 4 rfl ?_
  refine g_iconst (v := 3) dL_law_214 (by decide) ?_
  refine g_iadd dL_law_215 ?_
  obtain ⟨e13, K⟩ := K
  refine g_sld (xs := xs) dL_law_216 sz e13 ?_
  refine g_aload_nT dL_law_217 rfl 0 rfl ?_
  refine g_iload dL_law_218 4 rfl ?_
  refine g_iconst (v := 4) dL_law_220 (by decide) ?_
  refine g_iadd dL_law_221 ?_
  obtain ⟨e14, K⟩ := K
  refine g_sld (xs := xs) dL_law_222 sz e14 ?_
  refine g_aload_nT dL_law_223 rfl 0 rfl ?_
  refine g_iload dL_law_224 4 rfl ?_
  refine g_iconst (v := 5) dL_law_226 (by decide) ?_
  refine g_iadd dL_law_227 ?_
  obtain ⟨e15, K⟩ := K
  refine g_sld (xs := xs) dL_law_228 sz e15 ?_
  obtain ⟨e18, K⟩ := K
  obtain ⟨q16, C17, K⟩ := K
  refine g_callV (M' := mX8_feed) (b := a2) (As := [.int (xs (x4 + 1).toNatClampNeg), .int (xs (x4 + 2).toNatClampNeg), .int (xs (x4 + 3).toNatClampNeg), .int (xs (x4 + 4).toNatClampNeg), .int (xs (x4 + 5).toNatClampNeg)]) (rest := [.int r10]) (rc' := rc) (rs' := rs) dL_law_229 bw_1329 bw_1330 bw_1331 bw_9 bw_1332 ⟨by decide +kernel, by decide +kernel, show (parseMethodDescriptor mX8_feed.1.desc).map (fun d => d.parameters.length) = some 5 by decide +kernel⟩ (by decide) (by decide) (Nat.le_of_ble_eq_true rfl) fc_8 (by decide) rfl e18 C17 (Nat.le_of_eq (Nat.add_zero _)) (Nat.le_of_eq (Nat.add_zero _)) (fun _ _ h => h) ?_
  rintro _ h19 ⟨r20, rfl, K1⟩ -
  replace K := K r20 h19 K1
  show Gm l x mL_law 15 232 [(0, .retAddr 999), (1, .ref a1), (2, .ref a2), (3, .ref a3), (4, .int x4)] [.int r20, .int r10] h19 rc rs n0 Q X
  refine g_icmp_eq (tgt := 1580) dL_law_232 (by decide) (fun c21 => ?_) (fun c21 => ?_)
  · replace K := K.1 c21
    exact K
  · replace K := K.2 c21
    refine g_iconst (v := 0) dL_law_235 (by decide) ?_
    exact g_zret dL_law_236 rfl K.1 K.2
set_option maxRecDepth 20000 in
set_option maxHeartbeats 4000000 in
theorem vL_law_237 {l : Launch} {x : CX} {xL : Nat} {xs : Nat → Int32} {a1 : Nat} {a2 : Nat} {a3 : Nat} {x4 : Int32} {h : PH} {rc rs n0 : Nat} {Q : Option Value → PH → Prop} {X : String → PH → Prop} (sz : ScrOk x xL xs)
    (K : (vp_in (x4 + 1) xL) ∧ ∃ (mc4 ms5 : Nat) (q2 : Int32 → PH → Prop), mc4 ≤ rc ∧ ms5 ≤ rs ∧ CHI l x mL_group hL_group 11 mc4 ms5 [.ref a1, .int (xs (x4 + 1).toNatClampNeg), .ref a3] h q2 ∧ ∀ (r7 : Int32) (h6 : PH), q2 r7 h6 → (vp_in (x4 + 1) xL) ∧ ((hK h6 a2).1 = 8) ∧ ∃ (q9 : Int32 → PH → Prop), CI l x mX8_group 9 0 0 [.ref a2, .int (xs (x4 + 1).toNatClampNeg)] h6 q9 ∧ ∀ (r13 : Int32) (h12 : PH), q9 r13 h12 → ((hK h12 a2).1 = 8) ∧ ∃ (q14 : Int32 → PH → Prop), CI l x mX8_thrown 0 0 0 [.ref a2] h12 q14 ∧ ∀ (r18 : Int32) (h17 : PH), q14 r18 h17 → ((r18 = r7 → ((¬ r7 = 0 → Gm l x mL_law 15 1580 [(0, .retAddr 999), (1, .ref a1), (2, .ref a2), (3, .ref a3), (4, .int x4)] [] h17 (rc - mc4) (rs - ms5) n0 Q X) ∧ (r7 = 0 → ((hK h17 a3).1 = 104) ∧ (vp_in 0 (hK h17 a3).2) ∧ (((lg_cmp (hL h17 a3 (Int32.toNatClampNeg 0)) r13.toInt64) = 0 → Gm l x mL_law 15 1580 [(0, .retAddr 999), (1, .ref a1), (2, .ref a2), (3, .ref a3), (4, .int x4)] [] h17 (rc - mc4) (rs - ms5) n0 Q X) ∧ (¬ (lg_cmp (hL h17 a3 (Int32.toNatClampNeg 0)) r13.toInt64) = 0 → ((0 : Int32) = 0 ∨ (0 : Int32) = 1) ∧ Q (some (.int 0)) h17))))) ∧ (¬ r18 = r7 → ((0 : Int32) = 0 ∨ (0 : Int32) = 1) ∧ Q (some (.int 0)) h17))) :
    Gm l x mL_law 15 237 [(0, .retAddr 999), (1, .ref a1), (2, .ref a2), (3, .ref a3), (4, .int x4)] [] h rc rs n0 Q X := by
  refine g_aload_n dL_law_237 rfl 1 rfl ?_
  refine g_aload_nT dL_law_238 rfl 0 rfl ?_
  refine g_iload dL_law_239 4 rfl ?_
  refine g_iconst (v := 1) dL_law_241 (by decide) ?_
  refine g_iadd dL_law_242 ?_
  obtain ⟨e1, K⟩ := K
  refine g_sld (xs := xs) dL_law_243 sz e1 ?_
  refine g_aload_n dL_law_244 rfl 3 rfl ?_
  obtain ⟨mc4, ms5, q2, e24, e25, C3, K⟩ := K
  refine g_callH (M' := mL_group) (hh := hL_group) (As := [.ref a1, .int (xs (x4 + 1).toNatClampNeg), .ref a3]) (rest := []) (rc' := (rc - mc4)) (rs' := (rs - ms5)) dL_law_245 bw_681 bw_682 bw_0 bw_683 ⟨by decide +kernel, by decide +kernel, show (parseMethodDescriptor mL_group.1.desc).map (fun d => d.parameters.length) = some 3 by decide +kernel⟩ (by decide) (by decide) (Nat.le_of_ble_eq_true rfl) C3 (by omega) (by omega) (fun _ _ h => h) ?_
  rintro _ h6 ⟨r7, rfl, K1⟩ -
  replace K := K r7 h6 K1
  show Gm l x mL_law 15 248 [(0, .retAddr 999), (1, .ref a1), (2, .ref a2), (3, .ref a3), (4, .int x4)] [.int r7] h6 (rc - mc4) (rs - ms5) n0 Q X
  refine g_istore (lv' := [(0, .retAddr 999), (1, .ref a1), (2, .ref a2), (3, .ref a3), (4, .int x4), (5, .int r7)]) dL_law_248 (by decide) rfl ?_
  refine g_aload_n dL_law_250 rfl 2 rfl ?_
  refine g_aload_nT dL_law_251 rfl 0 rfl ?_
  refine g_iload dL_law_252 4 rfl ?_
  refine g_iconst (v := 1) dL_law_254 (by decide) ?_
  refine g_iadd dL_law_255 ?_
  obtain ⟨e8, K⟩ := K
  refine g_sld (xs := xs) dL_law_256 sz e8 ?_
  obtain ⟨e11, K⟩ := K
  obtain ⟨q9, C10, K⟩ := K
  refine g_callV (M' := mX8_group) (b := a2) (As := [.int (xs (x4 + 1).toNatClampNeg)]) (rest := []) (rc' := (rc - mc4)) (rs' := (rs - ms5)) dL_law_257 bw_1333 bw_1334 bw_1335 bw_9 bw_1336 ⟨by decide +kernel, by decide +kernel, show (parseMethodDescriptor mX8_group.1.desc).map (fun d => d.parameters.length) = some 1 by decide +kernel⟩ (by decide) (by decide) (Nat.le_of_ble_eq_true rfl) fc_8 (by decide) rfl e11 C10 (Nat.le_of_eq (Nat.add_zero _)) (Nat.le_of_eq (Nat.add_zero _)) (fun _ _ h => h) ?_
  rintro _ h12 ⟨r13, rfl, K1⟩ -
  replace K := K r13 h12 K1
  show Gm l x mL_law 15 260 [(0, .retAddr 999), (1, .ref a1), (2, .ref a2), (3, .ref a3), (4, .int x4), (5, .int r7)] [.int r13] h12 (rc - mc4) (rs - ms5) n0 Q X
  refine g_istore (lv' := [(0, .retAddr 999), (1, .ref a1), (2, .ref a2), (3, .ref a3), (4, .int x4), (5, .int r7), (6, .int r13)]) dL_law_260 (by decide) rfl ?_
  refine g_aload_n dL_law_262 rfl 2 rfl ?_
  obtain ⟨e16, K⟩ := K
  obtain ⟨q14, C15, K⟩ := K
  refine g_callV (M' := mX8_thrown) (b := a2) (As := []) (rest := []) (rc' := (rc - mc4)) (rs' := (rs - ms5)) dL_law_263 bw_1325 bw_1326 bw_1327 bw_9 bw_1328 ⟨by decide +kernel, by decide +kernel, show (parseMethodDescriptor mX8_thrown.1.desc).map (fun d => d.parameters.length) = some 0 by decide +kernel⟩ (by decide) (by decide) (Nat.le_of_ble_eq_true rfl) fc_8 (by decide) rfl e16 C15 (Nat.le_of_eq (Nat.add_zero _)) (Nat.le_of_eq (Nat.add_zero _)) (fun _ _ h => h) ?_
  rintro _ h17 ⟨r18, rfl, K1⟩ -
  replace K := K r18 h17 K1
  show Gm l x mL_law 15 266 [(0, .retAddr 999), (1, .ref a1), (2, .ref a2), (3, .ref a3), (4, .int x4), (5, .int r7), (6, .int r13)] [.int r18] h17 (rc - mc4) (rs - ms5) n0 Q X
  refine g_iload dL_law_266 5 rfl ?_
  refine g_icmp_eq (tgt := 273) dL_law_268 (by decide) (fun c19 => ?_) (fun c19 => ?_)
  · replace K := K.1 c19
    refine g_iload dL_law_273 5 rfl ?_
    refine g_if_ne (tgt := 290) dL_law_275 (by decide) (fun c20 => ?_) (fun c20 => ?_)
    · replace K := K.1 c20
      refine g_goto (tgt := 1580) dL_law_290 (by decide) ?_
      exact Gm.sub [0, 1, 2, 3, 4] rfl K
    · replace K := K.2 c20
      refine g_aload_n dL_law_278 rfl 3 rfl ?_
      refine g_iconst (v := 0) dL_law_279 (by decide) ?_
      obtain ⟨e21, e22, K⟩ := K
      refine g_lald dL_law_280 e21 e22 ?_
      refine g_iload dL_law_281 6 rfl ?_
      refine g_i2l dL_law_283 ?_
      refine g_lcmp dL_law_284 ?_
      refine g_if_eq (tgt := 290) dL_law_285 (by decide) (fun c23 => ?_) (fun c23 => ?_)
      · replace K := K.1 c23
        refine g_goto (tgt := 1580) dL_law_290 (by decide) ?_
        exact Gm.sub [0, 1, 2, 3, 4] rfl K
      · replace K := K.2 c23
        refine g_iconst (v := 0) dL_law_288 (by decide) ?_
        exact g_zret dL_law_289 rfl K.1 K.2
  · replace K := K.2 c19
    refine g_iconst (v := 0) dL_law_271 (by decide) ?_
    exact g_zret dL_law_272 rfl K.1 K.2
set_option maxRecDepth 20000 in
set_option maxHeartbeats 4000000 in
theorem vL_law_293 {l : Launch} {x : CX} {xL : Nat} {xs : Nat → Int32} {a1 : Nat} {a2 : Nat} {a3 : Nat} {x4 : Int32} {h : PH} {rc rs n0 : Nat} {Q : Option Value → PH → Prop} {X : String → PH → Prop} (sz : ScrOk x xL xs)
    (K : ((hK h a1).1 = 7) ∧ ∃ (q1 : Int32 → PH → Prop), CI l x mX7_fault 0 0 0 [.ref a1] h q1 ∧ ∀ (r5 : Int32) (h4 : PH), q1 r5 h4 → ((hK h4 a2).1 = 8) ∧ ∃ (q6 : Int32 → PH → Prop), CI l x mX8_fault 0 0 0 [.ref a2] h4 q6 ∧ ∀ (r10 : Int32) (h9 : PH), q6 r10 h9 → ((r5 = r10 → Gm l x mL_law 15 1580 [(0, .retAddr 999), (1, .ref a1), (2, .ref a2), (3, .ref a3), (4, .int x4)] [] h9 rc rs n0 Q X) ∧ (¬ r5 = r10 → ((0 : Int32) = 0 ∨ (0 : Int32) = 1) ∧ Q (some (.int 0)) h9))) :
    Gm l x mL_law 15 293 [(0, .retAddr 999), (1, .ref a1), (2, .ref a2), (3, .ref a3), (4, .int x4)] [] h rc rs n0 Q X := by
  refine g_aload_n dL_law_293 rfl 1 rfl ?_
  obtain ⟨e3, K⟩ := K
  obtain ⟨q1, C2, K⟩ := K
  refine g_callV (M' := mX7_fault) (b := a1) (As := []) (rest := []) (rc' := rc) (rs' := rs) dL_law_294 bw_432 bw_433 bw_434 bw_1 bw_435 ⟨by decide +kernel, by decide +kernel, show (parseMethodDescriptor mX7_fault.1.desc).map (fun d => d.parameters.length) = some 0 by decide +kernel⟩ (by decide) (by decide) (Nat.le_of_ble_eq_true rfl) fc_7 (by decide) rfl e3 C2 (Nat.le_of_eq (Nat.add_zero _)) (Nat.le_of_eq (Nat.add_zero _)) (fun _ _ h => h) ?_
  rintro _ h4 ⟨r5, rfl, K1⟩ -
  replace K := K r5 h4 K1
  show Gm l x mL_law 15 297 [(0, .retAddr 999), (1, .ref a1), (2, .ref a2), (3, .ref a3), (4, .int x4)] [.int r5] h4 rc rs n0 Q X
  refine g_aload_n dL_law_297 rfl 2 rfl ?_
  obtain ⟨e8, K⟩ := K
  obtain ⟨q6, C7, K⟩ := K
  refine g_callV (M' := mX8_fault) (b := a2) (As := []) (rest := [.int r5]) (rc' := rc) (rs' := rs) dL_law_298 bw_1401 bw_1402 bw_1403 bw_9 bw_1404 ⟨by decide +kernel, by decide +kernel, show (parseMethodDescriptor mX8_fault.1.desc).map (fun d => d.parameters.length) = some 0 by decide +kernel⟩ (by decide) (by decide) (Nat.le_of_ble_eq_true rfl) fc_8 (by decide) rfl e8 C7 (Nat.le_of_eq (Nat.add_zero _)) (Nat.le_of_eq (Nat.add_zero _)) (fun _ _ h => h) ?_
  rintro _ h9 ⟨r10, rfl, K1⟩ -
  replace K := K r10 h9 K1
  show Gm l x mL_law 15 301 [(0, .retAddr 999), (1, .ref a1), (2, .ref a2), (3, .ref a3), (4, .int x4)] [.int r10, .int r5] h9 rc rs n0 Q X
  refine g_icmp_eq (tgt := 1580) dL_law_301 (by decide) (fun c11 => ?_) (fun c11 => ?_)
  · replace K := K.1 c11
    exact K
  · replace K := K.2 c11
    refine g_iconst (v := 0) dL_law_304 (by decide) ?_
    exact g_zret dL_law_305 rfl K.1 K.2
set_option maxRecDepth 20000 in
set_option maxHeartbeats 4000000 in
theorem vL_law_306 {l : Launch} {x : CX} {xL : Nat} {xs : Nat → Int32} {a1 : Nat} {a2 : Nat} {a3 : Nat} {x4 : Int32} {h : PH} {rc rs n0 : Nat} {Q : Option Value → PH → Prop} {X : String → PH → Prop} (sz : ScrOk x xL xs)
    (K : (vp_in (x4 + 1) xL) ∧ ∃ (mc4 ms5 : Nat) (q2 : Int32 → PH → Prop), mc4 ≤ rc ∧ ms5 ≤ rs ∧ CHI l x mL_count hL_count 9 mc4 ms5 [.ref a1, .int (xs (x4 + 1).toNatClampNeg), .ref a3] h q2 ∧ ∀ (r7 : Int32) (h6 : PH), q2 r7 h6 → (vp_in (x4 + 1) xL) ∧ ((hK h6 a2).1 = 8) ∧ ∃ (q9 : Int32 → PH → Prop), CI l x mX8_count 14 0 0 [.ref a2, .int (xs (x4 + 1).toNatClampNeg)] h6 q9 ∧ ∀ (r13 : Int32) (h12 : PH), q9 r13 h12 → ((hK h12 a2).1 = 8) ∧ ∃ (q14 : Int32 → PH → Prop), CI l x mX8_thrown 0 0 0 [.ref a2] h12 q14 ∧ ∀ (r18 : Int32) (h17 : PH), q14 r18 h17 → ((r18 = r7 → ((¬ r7 = 0 → Gm l x mL_law 15 1580 [(0, .retAddr 999), (1, .ref a1), (2, .ref a2), (3, .ref a3), (4, .int x4)] [] h17 (rc - mc4) (rs - ms5) n0 Q X) ∧ (r7 = 0 → ((hK h17 a3).1 = 104) ∧ (vp_in 0 (hK h17 a3).2) ∧ (((lg_cmp (hL h17 a3 (Int32.toNatClampNeg 0)) r13.toInt64) = 0 → Gm l x mL_law 15 1580 [(0, .retAddr 999), (1, .ref a1), (2, .ref a2), (3, .ref a3), (4, .int x4)] [] h17 (rc - mc4) (rs - ms5) n0 Q X) ∧ (¬ (lg_cmp (hL h17 a3 (Int32.toNatClampNeg 0)) r13.toInt64) = 0 → ((0 : Int32) = 0 ∨ (0 : Int32) = 1) ∧ Q (some (.int 0)) h17))))) ∧ (¬ r18 = r7 → ((0 : Int32) = 0 ∨ (0 : Int32) = 1) ∧ Q (some (.int 0)) h17))) :
    Gm l x mL_law 15 306 [(0, .retAddr 999), (1, .ref a1), (2, .ref a2), (3, .ref a3), (4, .int x4)] [] h rc rs n0 Q X := by
  refine g_aload_n dL_law_306 rfl 1 rfl ?_
  refine g_aload_nT dL_law_307 rfl 0 rfl ?_
  refine g_iload dL_law_308 4 rfl ?_
  refine g_iconst (v := 1) dL_law_310 (by decide) ?_
  refine g_iadd dL_law_311 ?_
  obtain ⟨e1, K⟩ := K
  refine g_sld (xs := xs) dL_law_312 sz e1 ?_
  refine g_aload_n dL_law_313 rfl 3 rfl ?_
  obtain ⟨mc4, ms5, q2, e24, e25, C3, K⟩ := K
  refine g_callH (M' := mL_count) (hh := hL_count) (As := [.ref a1, .int (xs (x4 + 1).toNatClampNeg), .ref a3]) (rest := []) (rc' := (rc - mc4)) (rs' := (rs - ms5)) dL_law_314 bw_894 bw_895 bw_0 bw_896 ⟨by decide +kernel, by decide +kernel, show (parseMethodDescriptor mL_count.1.desc).map (fun d => d.parameters.length) = some 3 by decide +kernel⟩ (by decide) (by decide) (Nat.le_of_ble_eq_true rfl) C3 (by omega) (by omega) (fun _ _ h => h) ?_
  rintro _ h6 ⟨r7, rfl, K1⟩ -
  replace K := K r7 h6 K1
  show Gm l x mL_law 15 317 [(0, .retAddr 999), (1, .ref a1), (2, .ref a2), (3, .ref a3), (4, .int x4)] [.int r7] h6 (rc - mc4) (rs - ms5) n0 Q X
  refine g_istore (lv' := [(0, .retAddr 999), (1, .ref a1), (2, .ref a2), (3, .ref a3), (4, .int x4), (5, .int r7)]) dL_law_317 (by decide) rfl ?_
  refine g_aload_n dL_law_319 rfl 2 rfl ?_
  refine g_aload_nT dL_law_320 rfl 0 rfl ?_
  refine g_iload dL_law_321 4 rfl ?_
  refine g_iconst (v := 1) dL_law_323 (by decide) ?_
  refine g_iadd dL_law_324 ?_
  obtain ⟨e8, K⟩ := K
  refine g_sld (xs := xs) dL_law_325 sz e8 ?_
  obtain ⟨e11, K⟩ := K
  obtain ⟨q9, C10, K⟩ := K
  refine g_callV (M' := mX8_count) (b := a2) (As := [.int (xs (x4 + 1).toNatClampNeg)]) (rest := []) (rc' := (rc - mc4)) (rs' := (rs - ms5)) dL_law_326 bw_1405 bw_1406 bw_1407 bw_9 bw_1408 ⟨by decide +kernel, by decide +kernel, show (parseMethodDescriptor mX8_count.1.desc).map (fun d => d.parameters.length) = some 1 by decide +kernel⟩ (by decide) (by decide) (Nat.le_of_ble_eq_true rfl) fc_8 (by decide) rfl e11 C10 (Nat.le_of_eq (Nat.add_zero _)) (Nat.le_of_eq (Nat.add_zero _)) (fun _ _ h => h) ?_
  rintro _ h12 ⟨r13, rfl, K1⟩ -
  replace K := K r13 h12 K1
  show Gm l x mL_law 15 329 [(0, .retAddr 999), (1, .ref a1), (2, .ref a2), (3, .ref a3), (4, .int x4), (5, .int r7)] [.int r13] h12 (rc - mc4) (rs - ms5) n0 Q X
  refine g_istore (lv' := [(0, .retAddr 999), (1, .ref a1), (2, .ref a2), (3, .ref a3), (4, .int x4), (5, .int r7), (6, .int r13)]) dL_law_329 (by decide) rfl ?_
  refine g_aload_n dL_law_331 rfl 2 rfl ?_
  obtain ⟨e16, K⟩ := K
  obtain ⟨q14, C15, K⟩ := K
  refine g_callV (M' := mX8_thrown) (b := a2) (As := []) (rest := []) (rc' := (rc - mc4)) (rs' := (rs - ms5)) dL_law_332 bw_1325 bw_1326 bw_1327 bw_9 bw_1328 ⟨by decide +kernel, by decide +kernel, show (parseMethodDescriptor mX8_thrown.1.desc).map (fun d => d.parameters.length) = some 0 by decide +kernel⟩ (by decide) (by decide) (Nat.le_of_ble_eq_true rfl) fc_8 (by decide) rfl e16 C15 (Nat.le_of_eq (Nat.add_zero _)) (Nat.le_of_eq (Nat.add_zero _)) (fun _ _ h => h) ?_
  rintro _ h17 ⟨r18, rfl, K1⟩ -
  replace K := K r18 h17 K1
  show Gm l x mL_law 15 335 [(0, .retAddr 999), (1, .ref a1), (2, .ref a2), (3, .ref a3), (4, .int x4), (5, .int r7), (6, .int r13)] [.int r18] h17 (rc - mc4) (rs - ms5) n0 Q X
  refine g_iload dL_law_335 5 rfl ?_
  refine g_icmp_eq (tgt := 342) dL_law_337 (by decide) (fun c19 => ?_) (fun c19 => ?_)
  · replace K := K.1 c19
    refine g_iload dL_law_342 5 rfl ?_
    refine g_if_ne (tgt := 359) dL_law_344 (by decide) (fun c20 => ?_) (fun c20 => ?_)
    · replace K := K.1 c20
      refine g_goto (tgt := 1580) dL_law_359 (by decide) ?_
      exact Gm.sub [0, 1, 2, 3, 4] rfl K
    · replace K := K.2 c20
      refine g_aload_n dL_law_347 rfl 3 rfl ?_
      refine g_iconst (v := 0) dL_law_348 (by decide) ?_
      obtain ⟨e21, e22, K⟩ := K
      refine g_lald dL_law_349 e21 e22 ?_
      refine g_iload dL_law_350 6 rfl ?_
      refine g_i2l dL_law_352 ?_
      refine g_lcmp dL_law_353 ?_
      refine g_if_eq (tgt := 359) dL_law_354 (by decide) (fun c23 => ?_) (fun c23 => ?_)
      · replace K := K.1 c23
        refine g_goto (tgt := 1580) dL_law_359 (by decide) ?_
        exact Gm.sub [0, 1, 2, 3, 4] rfl K
      · replace K := K.2 c23
        refine g_iconst (v := 0) dL_law_357 (by decide) ?_
        exact g_zret dL_law_358 rfl K.1 K.2
  · replace K := K.2 c19
    refine g_iconst (v := 0) dL_law_340 (by decide) ?_
    exact g_zret dL_law_341 rfl K.1 K.2
set_option maxRecDepth 20000 in
set_option maxHeartbeats 4000000 in
theorem vL_law_362 {l : Launch} {x : CX} {xL : Nat} {xs : Nat → Int32} {a1 : Nat} {a2 : Nat} {a3 : Nat} {x4 : Int32} {h : PH} {rc rs n0 : Nat} {Q : Option Value → PH → Prop} {X : String → PH → Prop} (sz : ScrOk x xL xs)
    (K : (vp_in (x4 + 1) xL) ∧ (vp_in (x4 + 2) xL) ∧ ∃ (mc5 ms6 : Nat) (q3 : Int32 → PH → Prop), mc5 ≤ rc ∧ ms6 ≤ rs ∧ CHI l x mL_car hL_car 9 mc5 ms6 [.ref a1, .int (xs (x4 + 1).toNatClampNeg), .int (xs (x4 + 2).toNatClampNeg), .ref a3] h q3 ∧ ∀ (r8 : Int32) (h7 : PH), q3 r8 h7 → (vp_in (x4 + 1) xL) ∧ (vp_in (x4 + 2) xL) ∧ ((hK h7 a2).1 = 8) ∧ ∃ (q11 : Int32 → PH → Prop), CI l x mX8_car 3 0 0 [.ref a2, .int (xs (x4 + 1).toNatClampNeg), .int (xs (x4 + 2).toNatClampNeg)] h7 q11 ∧ ∀ (r15 : Int32) (h14 : PH), q11 r15 h14 → ((hK h14 a2).1 = 8) ∧ ∃ (q16 : Int32 → PH → Prop), CI l x mX8_thrown 0 0 0 [.ref a2] h14 q16 ∧ ∀ (r20 : Int32) (h19 : PH), q16 r20 h19 → ((r20 = r8 → ((¬ r8 = 0 → Gm l x mL_law 15 1580 [(0, .retAddr 999), (1, .ref a1), (2, .ref a2), (3, .ref a3), (4, .int x4)] [] h19 (rc - mc5) (rs - ms6) n0 Q X) ∧ (r8 = 0 → ((hK h19 a3).1 = 104) ∧ (vp_in 0 (hK h19 a3).2) ∧ (((lg_cmp (hL h19 a3 (Int32.toNatClampNeg 0)) r15.toInt64) = 0 → Gm l x mL_law 15 1580 [(0, .retAddr 999), (1, .ref a1), (2, .ref a2), (3, .ref a3), (4, .int x4)] [] h19 (rc - mc5) (rs - ms6) n0 Q X) ∧ (¬ (lg_cmp (hL h19 a3 (Int32.toNatClampNeg 0)) r15.toInt64) = 0 → ((0 : Int32) = 0 ∨ (0 : Int32) = 1) ∧ Q (some (.int 0)) h19))))) ∧ (¬ r20 = r8 → ((0 : Int32) = 0 ∨ (0 : Int32) = 1) ∧ Q (some (.int 0)) h19))) :
    Gm l x mL_law 15 362 [(0, .retAddr 999), (1, .ref a1), (2, .ref a2), (3, .ref a3), (4, .int x4)] [] h rc rs n0 Q X := by
  refine g_aload_n dL_law_362 rfl 1 rfl ?_
  refine g_aload_nT dL_law_363 rfl 0 rfl ?_
  refine g_iload dL_law_364 4 rfl ?_
  refine g_iconst (v := 1) dL_law_366 (by decide) ?_
  refine g_iadd dL_law_367 ?_
  obtain ⟨e1, K⟩ := K
  refine g_sld (xs := xs) dL_law_368 sz e1 ?_
  refine g_aload_nT dL_law_369 rfl 0 rfl ?_
  refine g_iload dL_law_370 4 rfl ?_
  refine g_iconst (v := 2) dL_law_372 (by decide) ?_
  refine g_iadd dL_law_373 ?_
  obtain ⟨e2, K⟩ := K
  refine g_sld (xs := xs) dL_law_374 sz e2 ?_
  refine g_aload_n dL_law_375 rfl 3 rfl ?_
  obtain ⟨mc5, ms6, q3, e26, e27, C4, K⟩ := K
  refine g_callH (M' := mL_car) (hh := hL_car) (As := [.ref a1, .int (xs (x4 + 1).toNatClampNeg), .int (xs (x4 + 2).toNatClampNeg), .ref a3]) (rest := []) (rc' := (rc - mc5)) (rs' := (rs - ms6)) dL_law_376 bw_993 bw_994 bw_0 bw_995 ⟨by decide +kernel, by decide +kernel, show (parseMethodDescriptor mL_car.1.desc).map (fun d => d.parameters.length) = some 4 by decide +kernel⟩ (by decide) (by decide) (Nat.le_of_ble_eq_true rfl) C4 (by omega) (by omega) (fun _ _ h => h) ?_
  rintro _ h7 ⟨r8, rfl, K1⟩ -
  replace K := K r8 h7 K1
  show Gm l x mL_law 15 379 [(0, .retAddr 999), (1, .ref a1), (2, .ref a2), (3, .ref a3), (4, .int x4)] [.int r8] h7 (rc - mc5) (rs - ms6) n0 Q X
  refine g_istore (lv' := [(0, .retAddr 999), (1, .ref a1), (2, .ref a2), (3, .ref a3), (4, .int x4), (5, .int r8)]) dL_law_379 (by decide) rfl ?_
  refine g_aload_n dL_law_381 rfl 2 rfl ?_
  refine g_aload_nT dL_law_382 rfl 0 rfl ?_
  refine g_iload dL_law_383 4 rfl ?_
  refine g_iconst (v := 1) dL_law_385 (by decide) ?_
  refine g_iadd dL_law_386 ?_
  obtain ⟨e9, K⟩ := K
  refine g_sld (xs := xs) dL_law_387 sz e9 ?_
  refine g_aload_nT dL_law_388 rfl 0 rfl ?_
  refine g_iload dL_law_389 4 rfl ?_
  refine g_iconst (v := 2) dL_law_391 (by decide) ?_
  refine g_iadd dL_law_392 ?_
  obtain ⟨e10, K⟩ := K
  refine g_sld (xs := xs) dL_law_393 sz e10 ?_
  obtain ⟨e13, K⟩ := K
  obtain ⟨q11, C12, K⟩ := K
  refine g_callV (M' := mX8_car) (b := a2) (As := [.int (xs (x4 + 1).toNatClampNeg), .int (xs (x4 + 2).toNatClampNeg)]) (rest := []) (rc' := (rc - mc5)) (rs' := (rs - ms6)) dL_law_394 bw_1604 bw_1605 bw_1606 bw_9 bw_1607 ⟨by decide +kernel, by decide +kernel, show (parseMethodDescriptor mX8_car.1.desc).map (fun d => d.parameters.length) = some 2 by decide +kernel⟩ (by decide) (by decide) (Nat.le_of_ble_eq_true rfl) fc_8 (by decide) rfl e13 C12 (Nat.le_of_eq (Nat.add_zero _)) (Nat.le_of_eq (Nat.add_zero _)) (fun _ _ h => h) ?_
  rintro _ h14 ⟨r15, rfl, K1⟩ -
  replace K := K r15 h14 K1
  show Gm l x mL_law 15 397 [(0, .retAddr 999), (1, .ref a1), (2, .ref a2), (3, .ref a3), (4, .int x4), (5, .int r8)] [.int r15] h14 (rc - mc5) (rs - ms6) n0 Q X
  refine g_istore (lv' := [(0, .retAddr 999), (1, .ref a1), (2, .ref a2), (3, .ref a3), (4, .int x4), (5, .int r8), (6, .int r15)]) dL_law_397 (by decide) rfl ?_
  refine g_aload_n dL_law_399 rfl 2 rfl ?_
  obtain ⟨e18, K⟩ := K
  obtain ⟨q16, C17, K⟩ := K
  refine g_callV (M' := mX8_thrown) (b := a2) (As := []) (rest := []) (rc' := (rc - mc5)) (rs' := (rs - ms6)) dL_law_400 bw_1325 bw_1326 bw_1327 bw_9 bw_1328 ⟨by decide +kernel, by decide +kernel, show (parseMethodDescriptor mX8_thrown.1.desc).map (fun d => d.parameters.length) = some 0 by decide +kernel⟩ (by decide) (by decide) (Nat.le_of_ble_eq_true rfl) fc_8 (by decide) rfl e18 C17 (Nat.le_of_eq (Nat.add_zero _)) (Nat.le_of_eq (Nat.add_zero _)) (fun _ _ h => h) ?_
  rintro _ h19 ⟨r20, rfl, K1⟩ -
  replace K := K r20 h19 K1
  show Gm l x mL_law 15 403 [(0, .retAddr 999), (1, .ref a1), (2, .ref a2), (3, .ref a3), (4, .int x4), (5, .int r8), (6, .int r15)] [.int r20] h19 (rc - mc5) (rs - ms6) n0 Q X
  refine g_iload dL_law_403 5 rfl ?_
  refine g_icmp_eq (tgt := 410) dL_law_405 (by decide) (fun c21 => ?_) (fun c21 => ?_)
  · replace K := K.1 c21
    refine g_iload dL_law_410 5 rfl ?_
    refine g_if_ne (tgt := 427) dL_law_412 (by decide) (fun c22 => ?_) (fun c22 => ?_)
    · replace K := K.1 c22
      refine g_goto (tgt := 1580) dL_law_427 (by decide) ?_
      exact Gm.sub [0, 1, 2, 3, 4] rfl K
    · replace K := K.2 c22
      refine g_aload_n dL_law_415 rfl 3 rfl ?_
      refine g_iconst (v := 0) dL_law_416 (by decide) ?_
      obtain ⟨e23, e24, K⟩ := K
      refine g_lald dL_law_417 e23 e24 ?_
      refine g_iload dL_law_418 6 rfl ?_
      refine g_i2l dL_law_420 ?_
      refine g_lcmp dL_law_421 ?_
      refine g_if_eq (tgt := 427) dL_law_422 (by decide) (fun c25 => ?_) (fun c25 => ?_)
      · replace K := K.1 c25
        refine g_goto (tgt := 1580) dL_law_427 (by decide) ?_
        exact Gm.sub [0, 1, 2, 3, 4] rfl K
      · replace K := K.2 c25
        refine g_iconst (v := 0) dL_law_425 (by decide) ?_
        exact g_zret dL_law_426 rfl K.1 K.2
  · replace K := K.2 c21
    refine g_iconst (v := 0) dL_law_408 (by decide) ?_
    exact g_zret dL_law_409 rfl K.1 K.2
set_option maxRecDepth 20000 in
set_option maxHeartbeats 4000000 in
theorem vL_law_430 {l : Launch} {x : CX} {xL : Nat} {xs : Nat → Int32} {a1 : Nat} {a2 : Nat} {a3 : Nat} {x4 : Int32} {h : PH} {rc rs n0 : Nat} {Q : Option Value → PH → Prop} {X : String → PH → Prop} (sz : ScrOk x xL xs)
    (K : (vp_in (x4 + 1) xL) ∧ (vp_in (x4 + 2) xL) ∧ ∃ (mc5 ms6 : Nat) (q3 : Int32 → PH → Prop), mc5 ≤ rc ∧ ms6 ≤ rs ∧ CHI l x mL_rider hL_rider 9 mc5 ms6 [.ref a1, .int (xs (x4 + 1).toNatClampNeg), .int (xs (x4 + 2).toNatClampNeg), .ref a3] h q3 ∧ ∀ (r8 : Int32) (h7 : PH), q3 r8 h7 → (vp_in (x4 + 1) xL) ∧ (vp_in (x4 + 2) xL) ∧ ((hK h7 a2).1 = 8) ∧ ∃ (q11 : Int32 → PH → Prop), CI l x mX8_rider 2 0 0 [.ref a2, .int (xs (x4 + 1).toNatClampNeg), .int (xs (x4 + 2).toNatClampNeg)] h7 q11 ∧ ∀ (r15 : Int32) (h14 : PH), q11 r15 h14 → ((hK h14 a2).1 = 8) ∧ ∃ (q16 : Int32 → PH → Prop), CI l x mX8_thrown 0 0 0 [.ref a2] h14 q16 ∧ ∀ (r20 : Int32) (h19 : PH), q16 r20 h19 → ((r20 = r8 → ((¬ r8 = 0 → Gm l x mL_law 15 1580 [(0, .retAddr 999), (1, .ref a1), (2, .ref a2), (3, .ref a3), (4, .int x4)] [] h19 (rc - mc5) (rs - ms6) n0 Q X) ∧ (r8 = 0 → ((hK h19 a3).1 = 104) ∧ (vp_in 0 (hK h19 a3).2) ∧ (((lg_cmp (hL h19 a3 (Int32.toNatClampNeg 0)) r15.toInt64) = 0 → Gm l x mL_law 15 1580 [(0, .retAddr 999), (1, .ref a1), (2, .ref a2), (3, .ref a3), (4, .int x4)] [] h19 (rc - mc5) (rs - ms6) n0 Q X) ∧ (¬ (lg_cmp (hL h19 a3 (Int32.toNatClampNeg 0)) r15.toInt64) = 0 → ((0 : Int32) = 0 ∨ (0 : Int32) = 1) ∧ Q (some (.int 0)) h19))))) ∧ (¬ r20 = r8 → ((0 : Int32) = 0 ∨ (0 : Int32) = 1) ∧ Q (some (.int 0)) h19))) :
    Gm l x mL_law 15 430 [(0, .retAddr 999), (1, .ref a1), (2, .ref a2), (3, .ref a3), (4, .int x4)] [] h rc rs n0 Q X := by
  refine g_aload_n dL_law_430 rfl 1 rfl ?_
  refine g_aload_nT dL_law_431 rfl 0 rfl ?_
  refine g_iload dL_law_432 4 rfl ?_
  refine g_iconst (v := 1) dL_law_434 (by decide) ?_
  refine g_iadd dL_law_435 ?_
  obtain ⟨e1, K⟩ := K
  refine g_sld (xs := xs) dL_law_436 sz e1 ?_
  refine g_aload_nT dL_law_437 rfl 0 rfl ?_
  refine g_iload dL_law_438 4 rfl ?_
  refine g_iconst (v := 2) dL_law_440 (by decide) ?_
  refine g_iadd dL_law_441 ?_
  obtain ⟨e2, K⟩ := K
  refine g_sld (xs := xs) dL_law_442 sz e2 ?_
  refine g_aload_n dL_law_443 rfl 3 rfl ?_
  obtain ⟨mc5, ms6, q3, e26, e27, C4, K⟩ := K
  refine g_callH (M' := mL_rider) (hh := hL_rider) (As := [.ref a1, .int (xs (x4 + 1).toNatClampNeg), .int (xs (x4 + 2).toNatClampNeg), .ref a3]) (rest := []) (rc' := (rc - mc5)) (rs' := (rs - ms6)) dL_law_444 bw_1010 bw_1011 bw_0 bw_1012 ⟨by decide +kernel, by decide +kernel, show (parseMethodDescriptor mL_rider.1.desc).map (fun d => d.parameters.length) = some 4 by decide +kernel⟩ (by decide) (by decide) (Nat.le_of_ble_eq_true rfl) C4 (by omega) (by omega) (fun _ _ h => h) ?_
  rintro _ h7 ⟨r8, rfl, K1⟩ -
  replace K := K r8 h7 K1
  show Gm l x mL_law 15 447 [(0, .retAddr 999), (1, .ref a1), (2, .ref a2), (3, .ref a3), (4, .int x4)] [.int r8] h7 (rc - mc5) (rs - ms6) n0 Q X
  refine g_istore (lv' := [(0, .retAddr 999), (1, .ref a1), (2, .ref a2), (3, .ref a3), (4, .int x4), (5, .int r8)]) dL_law_447 (by decide) rfl ?_
  refine g_aload_n dL_law_449 rfl 2 rfl ?_
  refine g_aload_nT dL_law_450 rfl 0 rfl ?_
  refine g_iload dL_law_451 4 rfl ?_
  refine g_iconst (v := 1) dL_law_453 (by decide) ?_
  refine g_iadd dL_law_454 ?_
  obtain ⟨e9, K⟩ := K
  refine g_sld (xs := xs) dL_law_455 sz e9 ?_
  refine g_aload_nT dL_law_456 rfl 0 rfl ?_
  refine g_iload dL_law_457 4 rfl ?_
  refine g_iconst (v := 2) dL_law_459 (by decide) ?_
  refine g_iadd dL_law_460 ?_
  obtain ⟨e10, K⟩ := K
  refine g_sld (xs := xs) dL_law_461 sz e10 ?_
  obtain ⟨e13, K⟩ := K
  obtain ⟨q11, C12, K⟩ := K
  refine g_callV (M' := mX8_rider) (b := a2) (As := [.int (xs (x4 + 1).toNatClampNeg), .int (xs (x4 + 2).toNatClampNeg)]) (rest := []) (rc' := (rc - mc5)) (rs' := (rs - ms6)) dL_law_462 bw_1615 bw_1616 bw_1617 bw_9 bw_1618 ⟨by decide +kernel, by decide +kernel, show (parseMethodDescriptor mX8_rider.1.desc).map (fun d => d.parameters.length) = some 2 by decide +kernel⟩ (by decide) (by decide) (Nat.le_of_ble_eq_true rfl) fc_8 (by decide) rfl e13 C12 (Nat.le_of_eq (Nat.add_zero _)) (Nat.le_of_eq (Nat.add_zero _)) (fun _ _ h => h) ?_
  rintro _ h14 ⟨r15, rfl, K1⟩ -
  replace K := K r15 h14 K1
  show Gm l x mL_law 15 465 [(0, .retAddr 999), (1, .ref a1), (2, .ref a2), (3, .ref a3), (4, .int x4), (5, .int r8)] [.int r15] h14 (rc - mc5) (rs - ms6) n0 Q X
  refine g_istore (lv' := [(0, .retAddr 999), (1, .ref a1), (2, .ref a2), (3, .ref a3), (4, .int x4), (5, .int r8), (6, .int r15)]) dL_law_465 (by decide) rfl ?_
  refine g_aload_n dL_law_467 rfl 2 rfl ?_
  obtain ⟨e18, K⟩ := K
  obtain ⟨q16, C17, K⟩ := K
  refine g_callV (M' := mX8_thrown) (b := a2) (As := []) (rest := []) (rc' := (rc - mc5)) (rs' := (rs - ms6)) dL_law_468 bw_1325 bw_1326 bw_1327 bw_9 bw_1328 ⟨by decide +kernel, by decide +kernel, show (parseMethodDescriptor mX8_thrown.1.desc).map (fun d => d.parameters.length) = some 0 by decide +kernel⟩ (by decide) (by decide) (Nat.le_of_ble_eq_true rfl) fc_8 (by decide) rfl e18 C17 (Nat.le_of_eq (Nat.add_zero _)) (Nat.le_of_eq (Nat.add_zero _)) (fun _ _ h => h) ?_
  rintro _ h19 ⟨r20, rfl, K1⟩ -
  replace K := K r20 h19 K1
  show Gm l x mL_law 15 471 [(0, .retAddr 999), (1, .ref a1), (2, .ref a2), (3, .ref a3), (4, .int x4), (5, .int r8), (6, .int r15)] [.int r20] h19 (rc - mc5) (rs - ms6) n0 Q X
  refine g_iload dL_law_471 5 rfl ?_
  refine g_icmp_eq (tgt := 478) dL_law_473 (by decide) (fun c21 => ?_) (fun c21 => ?_)
  · replace K := K.1 c21
    refine g_iload dL_law_478 5 rfl ?_
    refine g_if_ne (tgt := 495) dL_law_480 (by decide) (fun c22 => ?_) (fun c22 => ?_)
    · replace K := K.1 c22
      refine g_goto (tgt := 1580) dL_law_495 (by decide) ?_
      exact Gm.sub [0, 1, 2, 3, 4] rfl K
    · replace K := K.2 c22
      refine g_aload_n dL_law_483 rfl 3 rfl ?_
      refine g_iconst (v := 0) dL_law_484 (by decide) ?_
      obtain ⟨e23, e24, K⟩ := K
      refine g_lald dL_law_485 e23 e24 ?_
      refine g_iload dL_law_486 6 rfl ?_
      refine g_i2l dL_law_488 ?_
      refine g_lcmp dL_law_489 ?_
      refine g_if_eq (tgt := 495) dL_law_490 (by decide) (fun c25 => ?_) (fun c25 => ?_)
      · replace K := K.1 c25
        refine g_goto (tgt := 1580) dL_law_495 (by decide) ?_
        exact Gm.sub [0, 1, 2, 3, 4] rfl K
      · replace K := K.2 c25
        refine g_iconst (v := 0) dL_law_493 (by decide) ?_
        exact g_zret dL_law_494 rfl K.1 K.2
  · replace K := K.2 c21
    refine g_iconst (v := 0) dL_law_476 (by decide) ?_
    exact g_zret dL_law_477 rfl K.1 K.2
set_option maxRecDepth 20000 in
set_option maxHeartbeats 4000000 in
theorem vL_law_498 {l : Launch} {x : CX} {xL : Nat} {xs : Nat → Int32} {a1 : Nat} {a2 : Nat} {a3 : Nat} {x4 : Int32} {h : PH} {rc rs n0 : Nat} {Q : Option Value → PH → Prop} {X : String → PH → Prop} (sz : ScrOk x xL xs)
    (K : (vp_in (x4 + 1) xL) ∧ (vp_in (x4 + 2) xL) ∧ (vp_in (x4 + 3) xL) ∧ ∃ (mc7 ms8 : Nat) (q5 : Int32 → PH → Prop), mc7 ≤ rc ∧ ms8 ≤ rs ∧ CHI l x mL_given hL_given 9 mc7 ms8 [.ref a1, .int (xs (x4 + 1).toNatClampNeg), .int (if (xs (x4 + 2).toNatClampNeg) = 0 then 0 else 1 : Int32), .int (xs (x4 + 3).toNatClampNeg), .ref a3] h q5 ∧ ∀ (r10 : Int32) (h9 : PH), q5 r10 h9 → (vp_in (x4 + 1) xL) ∧ (vp_in (x4 + 2) xL) ∧ (vp_in (x4 + 3) xL) ∧ ((hK h9 a2).1 = 8) ∧ ∃ (q15 : Int32 → PH → Prop), CI l x mX8_given 3 0 0 [.ref a2, .int (xs (x4 + 1).toNatClampNeg), .int (if (xs (x4 + 2).toNatClampNeg) = 0 then 0 else 1 : Int32), .int (xs (x4 + 3).toNatClampNeg)] h9 q15 ∧ ∀ (r19 : Int32) (h18 : PH), q15 r19 h18 → ((hK h18 a2).1 = 8) ∧ ∃ (q20 : Int32 → PH → Prop), CI l x mX8_thrown 0 0 0 [.ref a2] h18 q20 ∧ ∀ (r24 : Int32) (h23 : PH), q20 r24 h23 → ((r24 = r10 → ((¬ r10 = 0 → Gm l x mL_law 15 1580 [(0, .retAddr 999), (1, .ref a1), (2, .ref a2), (3, .ref a3), (4, .int x4)] [] h23 (rc - mc7) (rs - ms8) n0 Q X) ∧ (r10 = 0 → ((hK h23 a3).1 = 104) ∧ (vp_in 0 (hK h23 a3).2) ∧ (((lg_cmp (hL h23 a3 (Int32.toNatClampNeg 0)) r19.toInt64) = 0 → Gm l x mL_law 15 1580 [(0, .retAddr 999), (1, .ref a1), (2, .ref a2), (3, .ref a3), (4, .int x4)] [] h23 (rc - mc7) (rs - ms8) n0 Q X) ∧ (¬ (lg_cmp (hL h23 a3 (Int32.toNatClampNeg 0)) r19.toInt64) = 0 → ((0 : Int32) = 0 ∨ (0 : Int32) = 1) ∧ Q (some (.int 0)) h23))))) ∧ (¬ r24 = r10 → ((0 : Int32) = 0 ∨ (0 : Int32) = 1) ∧ Q (some (.int 0)) h23))) :
    Gm l x mL_law 15 498 [(0, .retAddr 999), (1, .ref a1), (2, .ref a2), (3, .ref a3), (4, .int x4)] [] h rc rs n0 Q X := by
  refine g_aload_n dL_law_498 rfl 1 rfl ?_
  refine g_aload_nT dL_law_499 rfl 0 rfl ?_
  refine g_iload dL_law_500 4 rfl ?_
  refine g_iconst (v := 1) dL_law_502 (by decide) ?_
  refine g_iadd dL_law_503 ?_
  obtain ⟨e1, K⟩ := K
  refine g_sld (xs := xs) dL_law_504 sz e1 ?_
  refine g_aload_nT dL_law_505 rfl 0 rfl ?_
  refine g_iload dL_law_506 4 rfl ?_
  refine g_iconst (v := 2) dL_law_508 (by decide) ?_
  refine g_iadd dL_law_509 ?_
  obtain ⟨e2, K⟩ := K
  refine g_sld (xs := xs) dL_law_510 sz e2 ?_
  have KJ : Gm l x mL_law 15 519 [(0, .retAddr 999), (1, .ref a1), (2, .ref a2), (3, .ref a3), (4, .int x4)] [.int (if (xs (x4 + 2).toNatClampNeg) = 0 then 0 else 1 : Int32), .int (xs (x4 + 1).toNatClampNeg), .ref a1] h rc rs n0 Q X := by
    refine g_aload_nT dL_law_519 rfl 0 rfl ?_
    refine g_iload dL_law_520 4 rfl ?_
    refine g_iconst (v := 3) dL_law_522 (by decide) ?_
    refine g_iadd dL_law_523 ?_
    obtain ⟨e4, K⟩ := K
    refine g_sld (xs := xs) dL_law_524 sz e4 ?_
    refine g_aload_n dL_law_525 rfl 3 rfl ?_
    obtain ⟨mc7, ms8, q5, e30, e31, C6, K⟩ := K
    refine g_callH (M' := mL_given) (hh := hL_given) (As := [.ref a1, .int (xs (x4 + 1).toNatClampNeg), .int (if (xs (x4 + 2).toNatClampNeg) = 0 then 0 else 1 : Int32), .int (xs (x4 + 3).toNatClampNeg), .ref a3]) (rest := []) (rc' := (rc - mc7)) (rs' := (rs - ms8)) dL_law_526 bw_1019 bw_1020 bw_0 bw_1021 ⟨by decide +kernel, by decide +kernel, show (parseMethodDescriptor mL_given.1.desc).map (fun d => d.parameters.length) = some 5 by decide +kernel⟩ (by decide) (by decide) (Nat.le_of_ble_eq_true rfl) C6 (by omega) (by omega) (fun _ _ h => h) ?_
    rintro _ h9 ⟨r10, rfl, K1⟩ -
    replace K := K r10 h9 K1
    show Gm l x mL_law 15 529 [(0, .retAddr 999), (1, .ref a1), (2, .ref a2), (3, .ref a3), (4, .int x4)] [.int r10] h9 (rc - mc7) (rs - ms8) n0 Q X
    refine g_istore (lv' := [(0, .retAddr 999), (1, .ref a1), (2, .ref a2), (3, .ref a3), (4, .int x4), (5, .int r10)]) dL_law_529 (by decide) rfl ?_
    refine g_aload_n dL_law_531 rfl 2 rfl ?_
    refine g_aload_nT dL_law_532 rfl 0 rfl ?_
    refine g_iload dL_law_533 4 rfl ?_
    refine g_iconst (v := 1) dL_law_535 (by decide) ?_
    refine g_iadd dL_law_536 ?_
    obtain ⟨e11, K⟩ := K
    refine g_sld (xs := xs) dL_law_537 sz e11 ?_
    refine g_aload_nT dL_law_538 rfl 0 rfl ?_
    refine g_iload dL_law_539 4 rfl ?_
    refine g_iconst (v := 2) dL_law_541 (by decide) ?_
    refine g_iadd dL_law_542 ?_
    obtain ⟨e12, K⟩ := K
    refine g_sld (xs := xs) dL_law_543 sz e12 ?_
    have KJ : Gm l x mL_law 15 552 [(0, .retAddr 999), (1, .ref a1), (2, .ref a2), (3, .ref a3), (4, .int x4), (5, .int r10)] [.int (if (xs (x4 + 2).toNatClampNeg) = 0 then 0 else 1 : Int32), .int (xs (x4 + 1).toNatClampNeg), .ref a2] h9 (rc - mc7) (rs - ms8) n0 Q X := by
      refine g_aload_nT dL_law_552 rfl 0 rfl ?_
      refine g_iload dL_law_553 4 rfl ?_
      refine g_iconst (v := 3) dL_law_555 (by decide) ?_
      refine g_iadd dL_law_556 ?_
      obtain ⟨e14, K⟩ := K
      refine g_sld (xs := xs) dL_law_557 sz e14 ?_
      obtain ⟨e17, K⟩ := K
      obtain ⟨q15, C16, K⟩ := K
      refine g_callV (M' := mX8_given) (b := a2) (As := [.int (xs (x4 + 1).toNatClampNeg), .int (if (xs (x4 + 2).toNatClampNeg) = 0 then 0 else 1 : Int32), .int (xs (x4 + 3).toNatClampNeg)]) (rest := []) (rc' := (rc - mc7)) (rs' := (rs - ms8)) dL_law_558 bw_1623 bw_1624 bw_1625 bw_9 bw_1626 ⟨by decide +kernel, by decide +kernel, show (parseMethodDescriptor mX8_given.1.desc).map (fun d => d.parameters.length) = some 3 by decide +kernel⟩ (by decide) (by decide) (Nat.le_of_ble_eq_true rfl) fc_8 (by decide) rfl e17 C16 (Nat.le_of_eq (Nat.add_zero _)) (Nat.le_of_eq (Nat.add_zero _)) (fun _ _ h => h) ?_
      rintro _ h18 ⟨r19, rfl, K1⟩ -
      replace K := K r19 h18 K1
      show Gm l x mL_law 15 561 [(0, .retAddr 999), (1, .ref a1), (2, .ref a2), (3, .ref a3), (4, .int x4), (5, .int r10)] [.int r19] h18 (rc - mc7) (rs - ms8) n0 Q X
      refine g_istore (lv' := [(0, .retAddr 999), (1, .ref a1), (2, .ref a2), (3, .ref a3), (4, .int x4), (5, .int r10), (6, .int r19)]) dL_law_561 (by decide) rfl ?_
      refine g_aload_n dL_law_563 rfl 2 rfl ?_
      obtain ⟨e22, K⟩ := K
      obtain ⟨q20, C21, K⟩ := K
      refine g_callV (M' := mX8_thrown) (b := a2) (As := []) (rest := []) (rc' := (rc - mc7)) (rs' := (rs - ms8)) dL_law_564 bw_1325 bw_1326 bw_1327 bw_9 bw_1328 ⟨by decide +kernel, by decide +kernel, show (parseMethodDescriptor mX8_thrown.1.desc).map (fun d => d.parameters.length) = some 0 by decide +kernel⟩ (by decide) (by decide) (Nat.le_of_ble_eq_true rfl) fc_8 (by decide) rfl e22 C21 (Nat.le_of_eq (Nat.add_zero _)) (Nat.le_of_eq (Nat.add_zero _)) (fun _ _ h => h) ?_
      rintro _ h23 ⟨r24, rfl, K1⟩ -
      replace K := K r24 h23 K1
      show Gm l x mL_law 15 567 [(0, .retAddr 999), (1, .ref a1), (2, .ref a2), (3, .ref a3), (4, .int x4), (5, .int r10), (6, .int r19)] [.int r24] h23 (rc - mc7) (rs - ms8) n0 Q X
      refine g_iload dL_law_567 5 rfl ?_
      refine g_icmp_eq (tgt := 574) dL_law_569 (by decide) (fun c25 => ?_) (fun c25 => ?_)
      · replace K := K.1 c25
        refine g_iload dL_law_574 5 rfl ?_
        refine g_if_ne (tgt := 591) dL_law_576 (by decide) (fun c26 => ?_) (fun c26 => ?_)
        · replace K := K.1 c26
          refine g_goto (tgt := 1580) dL_law_591 (by decide) ?_
          exact Gm.sub [0, 1, 2, 3, 4] rfl K
        · replace K := K.2 c26
          refine g_aload_n dL_law_579 rfl 3 rfl ?_
          refine g_iconst (v := 0) dL_law_580 (by decide) ?_
          obtain ⟨e27, e28, K⟩ := K
          refine g_lald dL_law_581 e27 e28 ?_
          refine g_iload dL_law_582 6 rfl ?_
          refine g_i2l dL_law_584 ?_
          refine g_lcmp dL_law_585 ?_
          refine g_if_eq (tgt := 591) dL_law_586 (by decide) (fun c29 => ?_) (fun c29 => ?_)
          · replace K := K.1 c29
            refine g_goto (tgt := 1580) dL_law_591 (by decide) ?_
            exact Gm.sub [0, 1, 2, 3, 4] rfl K
          · replace K := K.2 c29
            refine g_iconst (v := 0) dL_law_589 (by decide) ?_
            exact g_zret dL_law_590 rfl K.1 K.2
      · replace K := K.2 c25
        refine g_iconst (v := 0) dL_law_572 (by decide) ?_
        exact g_zret dL_law_573 rfl K.1 K.2
    refine g_if_eq (tgt := 551) dL_law_544 (by decide) (fun c13 => ?_) (fun c13 => ?_)
    · refine g_iconst (v := 0) dL_law_551 (by decide) ?_
      first | (simp only [if_pos c13] at KJ; exact KJ) | (simp only [if_pos c13, ite_true, ite_false, eq_self] at KJ; exact KJ) | (simp only [if_pos c13] at KJ ⊢; exact KJ) | exact KJ
    · refine g_iconst (v := 1) dL_law_547 (by decide) ?_
      refine g_goto (tgt := 552) dL_law_548 (by decide) ?_
      first | (simp only [if_neg c13] at KJ; exact KJ) | (simp only [if_neg c13, ite_true, ite_false, eq_self] at KJ; exact KJ) | (simp only [if_neg c13] at KJ ⊢; exact KJ) | exact KJ
  refine g_if_eq (tgt := 518) dL_law_511 (by decide) (fun c3 => ?_) (fun c3 => ?_)
  · refine g_iconst (v := 0) dL_law_518 (by decide) ?_
    first | (simp only [if_pos c3] at KJ; exact KJ) | (simp only [if_pos c3, ite_true, ite_false, eq_self] at KJ; exact KJ) | (simp only [if_pos c3] at KJ ⊢; exact KJ) | exact KJ
  · refine g_iconst (v := 1) dL_law_514 (by decide) ?_
    refine g_goto (tgt := 519) dL_law_515 (by decide) ?_
    first | (simp only [if_neg c3] at KJ; exact KJ) | (simp only [if_neg c3, ite_true, ite_false, eq_self] at KJ; exact KJ) | (simp only [if_neg c3] at KJ ⊢; exact KJ) | exact KJ
set_option maxRecDepth 20000 in
set_option maxHeartbeats 4000000 in
theorem vL_law_594 {l : Launch} {x : CX} {xL : Nat} {xs : Nat → Int32} {a1 : Nat} {a2 : Nat} {a3 : Nat} {x4 : Int32} {h : PH} {rc rs n0 : Nat} {Q : Option Value → PH → Prop} {X : String → PH → Prop} (sz : ScrOk x xL xs)
    (K : (vp_in (x4 + 1) xL) ∧ (vp_in (x4 + 2) xL) ∧ (vp_in (x4 + 3) xL) ∧ (vp_in (x4 + 4) xL) ∧ ∃ (mc8 ms9 : Nat) (q6 : Int32 → PH → Prop), mc8 ≤ rc ∧ ms9 ≤ rs ∧ CHI l x mL_cost hL_cost 9 mc8 ms9 [.ref a1, .int (xs (x4 + 1).toNatClampNeg), .int (xs (x4 + 2).toNatClampNeg), .int (if (xs (x4 + 3).toNatClampNeg) = 0 then 0 else 1 : Int32), .int (xs (x4 + 4).toNatClampNeg), .ref a3] h q6 ∧ ∀ (r11 : Int32) (h10 : PH), q6 r11 h10 → (vp_in (x4 + 1) xL) ∧ (vp_in (x4 + 2) xL) ∧ (vp_in (x4 + 3) xL) ∧ (vp_in (x4 + 4) xL) ∧ ((hK h10 a2).1 = 8) ∧ ∃ (q17 : Int32 → PH → Prop), CI l x mX8_cost 8 0 0 [.ref a2, .int (xs (x4 + 1).toNatClampNeg), .int (xs (x4 + 2).toNatClampNeg), .int (if (xs (x4 + 3).toNatClampNeg) = 0 then 0 else 1 : Int32), .int (xs (x4 + 4).toNatClampNeg)] h10 q17 ∧ ∀ (r21 : Int32) (h20 : PH), q17 r21 h20 → ((hK h20 a2).1 = 8) ∧ ∃ (q22 : Int32 → PH → Prop), CI l x mX8_thrown 0 0 0 [.ref a2] h20 q22 ∧ ∀ (r26 : Int32) (h25 : PH), q22 r26 h25 → ((r26 = r11 → ((¬ r11 = 0 → Gm l x mL_law 15 1580 [(0, .retAddr 999), (1, .ref a1), (2, .ref a2), (3, .ref a3), (4, .int x4)] [] h25 (rc - mc8) (rs - ms9) n0 Q X) ∧ (r11 = 0 → ((hK h25 a3).1 = 104) ∧ (vp_in 0 (hK h25 a3).2) ∧ (((lg_cmp (hL h25 a3 (Int32.toNatClampNeg 0)) r21.toInt64) = 0 → Gm l x mL_law 15 1580 [(0, .retAddr 999), (1, .ref a1), (2, .ref a2), (3, .ref a3), (4, .int x4)] [] h25 (rc - mc8) (rs - ms9) n0 Q X) ∧ (¬ (lg_cmp (hL h25 a3 (Int32.toNatClampNeg 0)) r21.toInt64) = 0 → ((0 : Int32) = 0 ∨ (0 : Int32) = 1) ∧ Q (some (.int 0)) h25))))) ∧ (¬ r26 = r11 → ((0 : Int32) = 0 ∨ (0 : Int32) = 1) ∧ Q (some (.int 0)) h25))) :
    Gm l x mL_law 15 594 [(0, .retAddr 999), (1, .ref a1), (2, .ref a2), (3, .ref a3), (4, .int x4)] [] h rc rs n0 Q X := by
  refine g_aload_n dL_law_594 rfl 1 rfl ?_
  refine g_aload_nT dL_law_595 rfl 0 rfl ?_
  refine g_iload dL_law_596 4 rfl ?_
  refine g_iconst (v := 1) dL_law_598 (by decide) ?_
  refine g_iadd dL_law_599 ?_
  obtain ⟨e1, K⟩ := K
  refine g_sld (xs := xs) dL_law_600 sz e1 ?_
  refine g_aload_nT dL_law_601 rfl 0 rfl ?_
  refine g_iload dL_law_602 4 rfl ?_
  refine g_iconst (v := 2) dL_law_604 (by decide) ?_
  refine g_iadd dL_law_605 ?_
  obtain ⟨e2, K⟩ := K
  refine g_sld (xs := xs) dL_law_606 sz e2 ?_
  refine g_aload_nT dL_law_607 rfl 0 rfl ?_
  refine g_iload dL_law_608 4 rfl ?_
  refine g_iconst (v := 3) dL_law_610 (by decide) ?_
  refine g_iadd dL_law_611 ?_
  obtain ⟨e3, K⟩ := K
  refine g_sld (xs := xs) dL_law_612 sz e3 ?_
  have KJ : Gm l x mL_law 15 621 [(0, .retAddr 999), (1, .ref a1), (2, .ref a2), (3, .ref a3), (4, .int x4)] [.int (if (xs (x4 + 3).toNatClampNeg) = 0 then 0 else 1 : Int32), .int (xs (x4 + 2).toNatClampNeg), .int (xs (x4 + 1).toNatClampNeg), .ref a1] h rc rs n0 Q X := by
    refine g_aload_nT dL_law_621 rfl 0 rfl ?_
    refine g_iload dL_law_622 4 rfl ?_
    refine g_iconst (v := 4) dL_law_624 (by decide) ?_
    refine g_iadd dL_law_625 ?_
    obtain ⟨e5, K⟩ := K
    refine g_sld (xs := xs) dL_law_626 sz e5 ?_
    refine g_aload_n dL_law_627 rfl 3 rfl ?_
    obtain ⟨mc8, ms9, q6, e32, e33, C7, K⟩ := K
    refine g_callH (M' := mL_cost) (hh := hL_cost) (As := [.ref a1, .int (xs (x4 + 1).toNatClampNeg), .int (xs (x4 + 2).toNatClampNeg), .int (if (xs (x4 + 3).toNatClampNeg) = 0 then 0 else 1 : Int32), .int (xs (x4 + 4).toNatClampNeg), .ref a3]) (rest := []) (rc' := (rc - mc8)) (rs' := (rs - ms9)) dL_law_628 bw_1029 bw_1030 bw_0 bw_1031 ⟨by decide +kernel, by decide +kernel, show (parseMethodDescriptor mL_cost.1.desc).map (fun d => d.parameters.length) = some 6 by decide +kernel⟩ (by decide) (by decide) (Nat.le_of_ble_eq_true rfl) C7 (by omega) (by omega) (fun _ _ h => h) ?_
    rintro _ h10 ⟨r11, rfl, K1⟩ -
    replace K := K r11 h10 K1
    show Gm l x mL_law 15 631 [(0, .retAddr 999), (1, .ref a1), (2, .ref a2), (3, .ref a3), (4, .int x4)] [.int r11] h10 (rc - mc8) (rs - ms9) n0 Q X
    refine g_istore (lv' := [(0, .retAddr 999), (1, .ref a1), (2, .ref a2), (3, .ref a3), (4, .int x4), (5, .int r11)]) dL_law_631 (by decide) rfl ?_
    refine g_aload_n dL_law_633 rfl 2 rfl ?_
    refine g_aload_nT dL_law_634 rfl 0 rfl ?_
    refine g_iload dL_law_635 4 rfl ?_
    refine g_iconst (v := 1) dL_law_637 (by decide) ?_
    refine g_iadd dL_law_638 ?_
    obtain ⟨e12, K⟩ := K
    refine g_sld (xs := xs) dL_law_639 sz e12 ?_
    refine g_aload_nT dL_law_640 rfl 0 rfl ?_
    refine g_iload dL_law_641 4 rfl ?_
    refine g_iconst (v := 2) dL_law_643 (by decide) ?_
    refine g_iadd dL_law_644 ?_
    obtain ⟨e13, K⟩ := K
    refine g_sld (xs := xs) dL_law_645 sz e13 ?_
    refine g_aload_nT dL_law_646 rfl 0 rfl ?_
    refine g_iload dL_law_647 4 rfl ?_
    refine g_iconst (v := 3) dL_law_649 (by decide) ?_
    refine g_iadd dL_law_650 ?_
    obtain ⟨e14, K⟩ := K
    refine g_sld (xs := xs) dL_law_651 sz e14 ?_
    have KJ : Gm l x mL_law 15 660 [(0, .retAddr 999), (1, .ref a1), (2, .ref a2), (3, .ref a3), (4, .int x4), (5, .int r11)] [.int (if (xs (x4 + 3).toNatClampNeg) = 0 then 0 else 1 : Int32), .int (xs (x4 + 2).toNatClampNeg), .int (xs (x4 + 1).toNatClampNeg), .ref a2] h10 (rc - mc8) (rs - ms9) n0 Q X := by
      refine g_aload_nT dL_law_660 rfl 0 rfl ?_
      refine g_iload dL_law_661 4 rfl ?_
      refine g_iconst (v := 4) dL_law_663 (by decide) ?_
      refine g_iadd dL_law_664 ?_
      obtain ⟨e16, K⟩ := K
      refine g_sld (xs := xs) dL_law_665 sz e16 ?_
      obtain ⟨e19, K⟩ := K
      obtain ⟨q17, C18, K⟩ := K
      refine g_callV (M' := mX8_cost) (b := a2) (As := [.int (xs (x4 + 1).toNatClampNeg), .int (xs (x4 + 2).toNatClampNeg), .int (if (xs (x4 + 3).toNatClampNeg) = 0 then 0 else 1 : Int32), .int (xs (x4 + 4).toNatClampNeg)]) (rest := []) (rc' := (rc - mc8)) (rs' := (rs - ms9)) dL_law_666 bw_1631 bw_1632 bw_1633 bw_9 bw_1634 ⟨by decide +kernel, by decide +kernel, show (parseMethodDescriptor mX8_cost.1.desc).map (fun d => d.parameters.length) = some 4 by decide +kernel⟩ (by decide) (by decide) (Nat.le_of_ble_eq_true rfl) fc_8 (by decide) rfl e19 C18 (Nat.le_of_eq (Nat.add_zero _)) (Nat.le_of_eq (Nat.add_zero _)) (fun _ _ h => h) ?_
      rintro _ h20 ⟨r21, rfl, K1⟩ -
      replace K := K r21 h20 K1
      show Gm l x mL_law 15 669 [(0, .retAddr 999), (1, .ref a1), (2, .ref a2), (3, .ref a3), (4, .int x4), (5, .int r11)] [.int r21] h20 (rc - mc8) (rs - ms9) n0 Q X
      refine g_istore (lv' := [(0, .retAddr 999), (1, .ref a1), (2, .ref a2), (3, .ref a3), (4, .int x4), (5, .int r11), (6, .int r21)]) dL_law_669 (by decide) rfl ?_
      refine g_aload_n dL_law_671 rfl 2 rfl ?_
      obtain ⟨e24, K⟩ := K
      obtain ⟨q22, C23, K⟩ := K
      refine g_callV (M' := mX8_thrown) (b := a2) (As := []) (rest := []) (rc' := (rc - mc8)) (rs' := (rs - ms9)) dL_law_672 bw_1325 bw_1326 bw_1327 bw_9 bw_1328 ⟨by decide +kernel, by decide +kernel, show (parseMethodDescriptor mX8_thrown.1.desc).map (fun d => d.parameters.length) = some 0 by decide +kernel⟩ (by decide) (by decide) (Nat.le_of_ble_eq_true rfl) fc_8 (by decide) rfl e24 C23 (Nat.le_of_eq (Nat.add_zero _)) (Nat.le_of_eq (Nat.add_zero _)) (fun _ _ h => h) ?_
      rintro _ h25 ⟨r26, rfl, K1⟩ -
      replace K := K r26 h25 K1
      show Gm l x mL_law 15 675 [(0, .retAddr 999), (1, .ref a1), (2, .ref a2), (3, .ref a3), (4, .int x4), (5, .int r11), (6, .int r21)] [.int r26] h25 (rc - mc8) (rs - ms9) n0 Q X
      refine g_iload dL_law_675 5 rfl ?_
      refine g_icmp_eq (tgt := 682) dL_law_677 (by decide) (fun c27 => ?_) (fun c27 => ?_)
      · replace K := K.1 c27
        refine g_iload dL_law_682 5 rfl ?_
        refine g_if_ne (tgt := 699) dL_law_684 (by decide) (fun c28 => ?_) (fun c28 => ?_)
        · replace K := K.1 c28
          refine g_goto (tgt := 1580) dL_law_699 (by decide) ?_
          exact Gm.sub [0, 1, 2, 3, 4] rfl K
        · replace K := K.2 c28
          refine g_aload_n dL_law_687 rfl 3 rfl ?_
          refine g_iconst (v := 0) dL_law_688 (by decide) ?_
          obtain ⟨e29, e30, K⟩ := K
          refine g_lald dL_law_689 e29 e30 ?_
          refine g_iload dL_law_690 6 rfl ?_
          refine g_i2l dL_law_692 ?_
          refine g_lcmp dL_law_693 ?_
          refine g_if_eq (tgt := 699) dL_law_694 (by decide) (fun c31 => ?_) (fun c31 => ?_)
          · replace K := K.1 c31
            refine g_goto (tgt := 1580) dL_law_699 (by decide) ?_
            exact Gm.sub [0, 1, 2, 3, 4] rfl K
          · replace K := K.2 c31
            refine g_iconst (v := 0) dL_law_697 (by decide) ?_
            exact g_zret dL_law_698 rfl K.1 K.2
      · replace K := K.2 c27
        refine g_iconst (v := 0) dL_law_680 (by decide) ?_
        exact g_zret dL_law_681 rfl K.1 K.2
    refine g_if_eq (tgt := 659) dL_law_652 (by decide) (fun c15 => ?_) (fun c15 => ?_)
    · refine g_iconst (v := 0) dL_law_659 (by decide) ?_
      first | (simp only [if_pos c15] at KJ; exact KJ) | (simp only [if_pos c15, ite_true, ite_false, eq_self] at KJ; exact KJ) | (simp only [if_pos c15] at KJ ⊢; exact KJ) | exact KJ
    · refine g_iconst (v := 1) dL_law_655 (by decide) ?_
      refine g_goto (tgt := 660) dL_law_656 (by decide) ?_
      first | (simp only [if_neg c15] at KJ; exact KJ) | (simp only [if_neg c15, ite_true, ite_false, eq_self] at KJ; exact KJ) | (simp only [if_neg c15] at KJ ⊢; exact KJ) | exact KJ
  refine g_if_eq (tgt := 620) dL_law_613 (by decide) (fun c4 => ?_) (fun c4 => ?_)
  · refine g_iconst (v := 0) dL_law_620 (by decide) ?_
    first | (simp only [if_pos c4] at KJ; exact KJ) | (simp only [if_pos c4, ite_true, ite_false, eq_self] at KJ; exact KJ) | (simp only [if_pos c4] at KJ ⊢; exact KJ) | exact KJ
  · refine g_iconst (v := 1) dL_law_616 (by decide) ?_
    refine g_goto (tgt := 621) dL_law_617 (by decide) ?_
    first | (simp only [if_neg c4] at KJ; exact KJ) | (simp only [if_neg c4, ite_true, ite_false, eq_self] at KJ; exact KJ) | (simp only [if_neg c4] at KJ ⊢; exact KJ) | exact KJ
set_option maxRecDepth 20000 in
set_option maxHeartbeats 4000000 in
theorem vL_law_702 {l : Launch} {x : CX} {xL : Nat} {xs : Nat → Int32} {a1 : Nat} {a2 : Nat} {a3 : Nat} {x4 : Int32} {h : PH} {rc rs n0 : Nat} {Q : Option Value → PH → Prop} {X : String → PH → Prop} (sz : ScrOk x xL xs)
    (K : (vp_in (x4 + 1) xL) ∧ ((hK h a1).1 = 7) ∧ ∃ (mc4 ms5 : Nat) (q2 : Int32 → PH → Prop), mc4 ≤ rc ∧ ms5 ≤ rs ∧ CI l x mX7_ticks 5 mc4 ms5 [.ref a1, .int (xs (x4 + 1).toNatClampNeg)] h q2 ∧ ∀ (r8 : Int32) (h7 : PH), q2 r8 h7 → (vp_in (x4 + 1) xL) ∧ ((hK h7 a2).1 = 8) ∧ ∃ (q10 : Int32 → PH → Prop), CI l x mX8_ticks 12 0 0 [.ref a2, .int (xs (x4 + 1).toNatClampNeg)] h7 q10 ∧ ∀ (r14 : Int32) (h13 : PH), q10 r14 h13 → ((r8 = r14 → Gm l x mL_law 15 1580 [(0, .retAddr 999), (1, .ref a1), (2, .ref a2), (3, .ref a3), (4, .int x4)] [] h13 (rc - mc4) (rs - ms5) n0 Q X) ∧ (¬ r8 = r14 → ((0 : Int32) = 0 ∨ (0 : Int32) = 1) ∧ Q (some (.int 0)) h13))) :
    Gm l x mL_law 15 702 [(0, .retAddr 999), (1, .ref a1), (2, .ref a2), (3, .ref a3), (4, .int x4)] [] h rc rs n0 Q X := by
  refine g_aload_n dL_law_702 rfl 1 rfl ?_
  refine g_aload_nT dL_law_703 rfl 0 rfl ?_
  refine g_iload dL_law_704 4 rfl ?_
  refine g_iconst (v := 1) dL_law_706 (by decide) ?_
  refine g_iadd dL_law_707 ?_
  obtain ⟨e1, K⟩ := K
  refine g_sld (xs := xs) dL_law_708 sz e1 ?_
  obtain ⟨e6, K⟩ := K
  obtain ⟨mc4, ms5, q2, e16, e17, C3, K⟩ := K
  refine g_callV (M' := mX7_ticks) (b := a1) (As := [.int (xs (x4 + 1).toNatClampNeg)]) (rest := []) (rc' := (rc - mc4)) (rs' := (rs - ms5)) dL_law_709 bw_436 bw_437 bw_438 bw_1 bw_439 ⟨by decide +kernel, by decide +kernel, show (parseMethodDescriptor mX7_ticks.1.desc).map (fun d => d.parameters.length) = some 1 by decide +kernel⟩ (by decide) (by decide) (Nat.le_of_ble_eq_true rfl) fc_7 (by decide) rfl e6 C3 (by omega) (by omega) (fun _ _ h => h) ?_
  rintro _ h7 ⟨r8, rfl, K1⟩ -
  replace K := K r8 h7 K1
  show Gm l x mL_law 15 712 [(0, .retAddr 999), (1, .ref a1), (2, .ref a2), (3, .ref a3), (4, .int x4)] [.int r8] h7 (rc - mc4) (rs - ms5) n0 Q X
  refine g_aload_n dL_law_712 rfl 2 rfl ?_
  refine g_aload_nT dL_law_713 rfl 0 rfl ?_
  refine g_iload dL_law_714 4 rfl ?_
  refine g_iconst (v := 1) dL_law_716 (by decide) ?_
  refine g_iadd dL_law_717 ?_
  obtain ⟨e9, K⟩ := K
  refine g_sld (xs := xs) dL_law_718 sz e9 ?_
  obtain ⟨e12, K⟩ := K
  obtain ⟨q10, C11, K⟩ := K
  refine g_callV (M' := mX8_ticks) (b := a2) (As := [.int (xs (x4 + 1).toNatClampNeg)]) (rest := [.int r8]) (rc' := (rc - mc4)) (rs' := (rs - ms5)) dL_law_719 bw_1635 bw_1636 bw_1637 bw_9 bw_1638 ⟨by decide +kernel, by decide +kernel, show (parseMethodDescriptor mX8_ticks.1.desc).map (fun d => d.parameters.length) = some 1 by decide +kernel⟩ (by decide) (by decide) (Nat.le_of_ble_eq_true rfl) fc_8 (by decide) rfl e12 C11 (Nat.le_of_eq (Nat.add_zero _)) (Nat.le_of_eq (Nat.add_zero _)) (fun _ _ h => h) ?_
  rintro _ h13 ⟨r14, rfl, K1⟩ -
  replace K := K r14 h13 K1
  show Gm l x mL_law 15 722 [(0, .retAddr 999), (1, .ref a1), (2, .ref a2), (3, .ref a3), (4, .int x4)] [.int r14, .int r8] h13 (rc - mc4) (rs - ms5) n0 Q X
  refine g_icmp_eq (tgt := 1580) dL_law_722 (by decide) (fun c15 => ?_) (fun c15 => ?_)
  · replace K := K.1 c15
    exact K
  · replace K := K.2 c15
    refine g_iconst (v := 0) dL_law_725 (by decide) ?_
    exact g_zret dL_law_726 rfl K.1 K.2
set_option maxRecDepth 20000 in
set_option maxHeartbeats 4000000 in
theorem vL_law_727 {l : Launch} {x : CX} {xL : Nat} {xs : Nat → Int32} {a1 : Nat} {a2 : Nat} {a3 : Nat} {x4 : Int32} {h : PH} {rc rs n0 : Nat} {Q : Option Value → PH → Prop} {X : String → PH → Prop} (sz : ScrOk x xL xs)
    (K : (vp_in (x4 + 1) xL) ∧ (vp_in (x4 + 2) xL) ∧ (vp_in (x4 + 3) xL) ∧ ((hK h a1).1 = 7) ∧ ∃ (mc6 ms7 : Nat) (q4 : Int32 → PH → Prop), mc6 ≤ rc ∧ ms7 ≤ rs ∧ CI l x mX7_come 5 mc6 ms7 [.ref a1, .int (xs (x4 + 1).toNatClampNeg), .int (xs (x4 + 2).toNatClampNeg), .int (xs (x4 + 3).toNatClampNeg)] h q4 ∧ ∀ (r10 : Int32) (h9 : PH), q4 r10 h9 → (vp_in (x4 + 1) xL) ∧ (vp_in (x4 + 2) xL) ∧ (vp_in (x4 + 3) xL) ∧ ((hK h9 a2).1 = 8) ∧ ∃ (q14 : Int32 → PH → Prop), CI l x mX8_come 3 0 0 [.ref a2, .int (xs (x4 + 1).toNatClampNeg), .int (xs (x4 + 2).toNatClampNeg), .int (xs (x4 + 3).toNatClampNeg)] h9 q14 ∧ ∀ (r18 : Int32) (h17 : PH), q14 r18 h17 → ((r10 = r18 → Gm l x mL_law 15 1580 [(0, .retAddr 999), (1, .ref a1), (2, .ref a2), (3, .ref a3), (4, .int x4)] [] h17 (rc - mc6) (rs - ms7) n0 Q X) ∧ (¬ r10 = r18 → ((0 : Int32) = 0 ∨ (0 : Int32) = 1) ∧ Q (some (.int 0)) h17))) :
    Gm l x mL_law 15 727 [(0, .retAddr 999), (1, .ref a1), (2, .ref a2), (3, .ref a3), (4, .int x4)] [] h rc rs n0 Q X := by
  refine g_aload_n dL_law_727 rfl 1 rfl ?_
  refine g_aload_nT dL_law_728 rfl 0 rfl ?_
  refine g_iload dL_law_729 4 rfl ?_
  refine g_iconst (v := 1) dL_law_731 (by decide) ?_
  refine g_iadd dL_law_732 ?_
  obtain ⟨e1, K⟩ := K
  refine g_sld (xs := xs) dL_law_733 sz e1 ?_
  refine g_aload_nT dL_law_734 rfl 0 rfl ?_
  refine g_iload dL_law_735 4 rfl ?_
  refine g_iconst (v := 2) dL_law_737 (by decide) ?_
  refine g_iadd dL_law_738 ?_
  obtain ⟨e2, K⟩ := K
  refine g_sld (xs := xs) dL_law_739 sz e2 ?_
  refine g_aload_nT dL_law_740 rfl 0 rfl ?_
  refine g_iload dL_law_741 4 rfl ?_
  refine g_iconst (v := 3) dL_law_743 (by decide) ?_
  refine g_iadd dL_law_744 ?_
  obtain ⟨e3, K⟩ := K
  refine g_sld (xs := xs) dL_law_745 sz e3 ?_
  obtain ⟨e8, K⟩ := K
  obtain ⟨mc6, ms7, q4, e20, e21, C5, K⟩ := K
  refine g_callV (M' := mX7_come) (b := a1) (As := [.int (xs (x4 + 1).toNatClampNeg), .int (xs (x4 + 2).toNatClampNeg), .int (xs (x4 + 3).toNatClampNeg)]) (rest := []) (rc' := (rc - mc6)) (rs' := (rs - ms7)) dL_law_746 bw_605 bw_606 bw_607 bw_1 bw_608 ⟨by decide +kernel, by decide +kernel, show (parseMethodDescriptor mX7_come.1.desc).map (fun d => d.parameters.length) = some 3 by decide +kernel⟩ (by decide) (by decide) (Nat.le_of_ble_eq_true rfl) fc_7 (by decide) rfl e8 C5 (by omega) (by omega) (fun _ _ h => h) ?_
  rintro _ h9 ⟨r10, rfl, K1⟩ -
  replace K := K r10 h9 K1
  show Gm l x mL_law 15 749 [(0, .retAddr 999), (1, .ref a1), (2, .ref a2), (3, .ref a3), (4, .int x4)] [.int r10] h9 (rc - mc6) (rs - ms7) n0 Q X
  refine g_aload_n dL_law_749 rfl 2 rfl ?_
  refine g_aload_nT dL_law_750 rfl 0 rfl ?_
  refine g_iload dL_law_751 4 rfl ?_
  refine g_iconst (v := 1) dL_law_753 (by decide) ?_
  refine g_iadd dL_law_754 ?_
  obtain ⟨e11, K⟩ := K
  refine g_sld (xs := xs) dL_law_755 sz e11 ?_
  refine g_aload_nT dL_law_756 rfl 0 rfl ?_
  refine g_iload dL_law_757 4 rfl ?_
  refine g_iconst (v := 2) dL_law_759 (by decide) ?_
  refine g_iadd dL_law_760 ?_
  obtain ⟨e12, K⟩ := K
  refine g_sld (xs := xs) dL_law_761 sz e12 ?_
  refine g_aload_nT dL_law_762 rfl 0 rfl ?_
  refine g_iload dL_law_763 4 rfl ?_
  refine g_iconst (v := 3) dL_law_765 (by decide) ?_
  refine g_iadd dL_law_766 ?_
  obtain ⟨e13, K⟩ := K
  refine g_sld (xs := xs) dL_law_767 sz e13 ?_
  obtain ⟨e16, K⟩ := K
  obtain ⟨q14, C15, K⟩ := K
  refine g_callV (M' := mX8_come) (b := a2) (As := [.int (xs (x4 + 1).toNatClampNeg), .int (xs (x4 + 2).toNatClampNeg), .int (xs (x4 + 3).toNatClampNeg)]) (rest := [.int r10]) (rc' := (rc - mc6)) (rs' := (rs - ms7)) dL_law_768 bw_1647 bw_1648 bw_1649 bw_9 bw_1650 ⟨by decide +kernel, by decide +kernel, show (parseMethodDescriptor mX8_come.1.desc).map (fun d => d.parameters.length) = some 3 by decide +kernel⟩ (by decide) (by decide) (Nat.le_of_ble_eq_true rfl) fc_8 (by decide) rfl e16 C15 (Nat.le_of_eq (Nat.add_zero _)) (Nat.le_of_eq (Nat.add_zero _)) (fun _ _ h => h) ?_
  rintro _ h17 ⟨r18, rfl, K1⟩ -
  replace K := K r18 h17 K1
  show Gm l x mL_law 15 771 [(0, .retAddr 999), (1, .ref a1), (2, .ref a2), (3, .ref a3), (4, .int x4)] [.int r18, .int r10] h17 (rc - mc6) (rs - ms7) n0 Q X
  refine g_icmp_eq (tgt := 1580) dL_law_771 (by decide) (fun c19 => ?_) (fun c19 => ?_)
  · replace K := K.1 c19
    exact K
  · replace K := K.2 c19
    refine g_iconst (v := 0) dL_law_774 (by decide) ?_
    exact g_zret dL_law_775 rfl K.1 K.2
set_option maxRecDepth 20000 in
set_option maxHeartbeats 4000000 in
theorem vL_law_776 {l : Launch} {x : CX} {xL : Nat} {xs : Nat → Int32} {a1 : Nat} {a2 : Nat} {a3 : Nat} {x4 : Int32} {h : PH} {rc rs n0 : Nat} {Q : Option Value → PH → Prop} {X : String → PH → Prop} (sz : ScrOk x xL xs)
    (K : (vp_in (x4 + 1) xL) ∧ (vp_in (x4 + 2) xL) ∧ ((hK h a1).1 = 7) ∧ ∃ (mc6 ms7 : Nat) (q4 : Int32 → PH → Prop), mc6 ≤ rc ∧ ms7 ≤ rs ∧ CI l x mX7_out 5 mc6 ms7 [.ref a1, .int (xs (x4 + 1).toNatClampNeg), .int (if (xs (x4 + 2).toNatClampNeg) = 0 then 0 else 1 : Int32)] h q4 ∧ ∀ (r10 : Int32) (h9 : PH), q4 r10 h9 → (vp_in (x4 + 1) xL) ∧ (vp_in (x4 + 2) xL) ∧ ((hK h9 a2).1 = 8) ∧ ∃ (q14 : Int32 → PH → Prop), CI l x mX8_out 3 0 0 [.ref a2, .int (xs (x4 + 1).toNatClampNeg), .int (if (xs (x4 + 2).toNatClampNeg) = 0 then 0 else 1 : Int32)] h9 q14 ∧ ∀ (r18 : Int32) (h17 : PH), q14 r18 h17 → ((r10 = r18 → Gm l x mL_law 15 1580 [(0, .retAddr 999), (1, .ref a1), (2, .ref a2), (3, .ref a3), (4, .int x4)] [] h17 (rc - mc6) (rs - ms7) n0 Q X) ∧ (¬ r10 = r18 → ((0 : Int32) = 0 ∨ (0 : Int32) = 1) ∧ Q (some (.int 0)) h17))) :
    Gm l x mL_law 15 776 [(0, .retAddr 999), (1, .ref a1), (2, .ref a2), (3, .ref a3), (4, .int x4)] [] h rc rs n0 Q X := by
  refine g_aload_n dL_law_776 rfl 1 rfl ?_
  refine g_aload_nT dL_law_777 rfl 0 rfl ?_
  refine g_iload dL_law_778 4 rfl ?_
  refine g_iconst (v := 1) dL_law_780 (by decide) ?_
  refine g_iadd dL_law_781 ?_
  obtain ⟨e1, K⟩ := K
  refine g_sld (xs := xs) dL_law_782 sz e1 ?_
  refine g_aload_nT dL_law_783 rfl 0 rfl ?_
  refine g_iload dL_law_784 4 rfl ?_
  refine g_iconst (v := 2) dL_law_786 (by decide) ?_
  refine g_iadd dL_law_787 ?_
  obtain ⟨e2, K⟩ := K
  refine g_sld (xs := xs) dL_law_788 sz e2 ?_
  have KJ : Gm l x mL_law 15 797 [(0, .retAddr 999), (1, .ref a1), (2, .ref a2), (3, .ref a3), (4, .int x4)] [.int (if (xs (x4 + 2).toNatClampNeg) = 0 then 0 else 1 : Int32), .int (xs (x4 + 1).toNatClampNeg), .ref a1] h rc rs n0 Q X := by
    obtain ⟨e8, K⟩ := K
    obtain ⟨mc6, ms7, q4, e20, e21, C5, K⟩ := K
    refine g_callV (M' := mX7_out) (b := a1) (As := [.int (xs (x4 + 1).toNatClampNeg), .int (if (xs (x4 + 2).toNatClampNeg) = 0 then 0 else 1 : Int32)]) (rest := []) (rc' := (rc - mc6)) (rs' := (rs - ms7)) dL_law_797 bw_628 bw_629 bw_630 bw_1 bw_631 ⟨by decide +kernel, by decide +kernel, show (parseMethodDescriptor mX7_out.1.desc).map (fun d => d.parameters.length) = some 2 by decide +kernel⟩ (by decide) (by decide) (Nat.le_of_ble_eq_true rfl) fc_7 (by decide) rfl e8 C5 (by omega) (by omega) (fun _ _ h => h) ?_
    rintro _ h9 ⟨r10, rfl, K1⟩ -
    replace K := K r10 h9 K1
    show Gm l x mL_law 15 800 [(0, .retAddr 999), (1, .ref a1), (2, .ref a2), (3, .ref a3), (4, .int x4)] [.int r10] h9 (rc - mc6) (rs - ms7) n0 Q X
    refine g_aload_n dL_law_800 rfl 2 rfl ?_
    refine g_aload_nT dL_law_801 rfl 0 rfl ?_
    refine g_iload dL_law_802 4 rfl ?_
    refine g_iconst (v := 1) dL_law_804 (by decide) ?_
    refine g_iadd dL_law_805 ?_
    obtain ⟨e11, K⟩ := K
    refine g_sld (xs := xs) dL_law_806 sz e11 ?_
    refine g_aload_nT dL_law_807 rfl 0 rfl ?_
    refine g_iload dL_law_808 4 rfl ?_
    refine g_iconst (v := 2) dL_law_810 (by decide) ?_
    refine g_iadd dL_law_811 ?_
    obtain ⟨e12, K⟩ := K
    refine g_sld (xs := xs) dL_law_812 sz e12 ?_
    have KJ : Gm l x mL_law 15 821 [(0, .retAddr 999), (1, .ref a1), (2, .ref a2), (3, .ref a3), (4, .int x4)] [.int (if (xs (x4 + 2).toNatClampNeg) = 0 then 0 else 1 : Int32), .int (xs (x4 + 1).toNatClampNeg), .ref a2, .int r10] h9 (rc - mc6) (rs - ms7) n0 Q X := by
      obtain ⟨e16, K⟩ := K
      obtain ⟨q14, C15, K⟩ := K
      refine g_callV (M' := mX8_out) (b := a2) (As := [.int (xs (x4 + 1).toNatClampNeg), .int (if (xs (x4 + 2).toNatClampNeg) = 0 then 0 else 1 : Int32)]) (rest := [.int r10]) (rc' := (rc - mc6)) (rs' := (rs - ms7)) dL_law_821 bw_1655 bw_1656 bw_1657 bw_9 bw_1658 ⟨by decide +kernel, by decide +kernel, show (parseMethodDescriptor mX8_out.1.desc).map (fun d => d.parameters.length) = some 2 by decide +kernel⟩ (by decide) (by decide) (Nat.le_of_ble_eq_true rfl) fc_8 (by decide) rfl e16 C15 (Nat.le_of_eq (Nat.add_zero _)) (Nat.le_of_eq (Nat.add_zero _)) (fun _ _ h => h) ?_
      rintro _ h17 ⟨r18, rfl, K1⟩ -
      replace K := K r18 h17 K1
      show Gm l x mL_law 15 824 [(0, .retAddr 999), (1, .ref a1), (2, .ref a2), (3, .ref a3), (4, .int x4)] [.int r18, .int r10] h17 (rc - mc6) (rs - ms7) n0 Q X
      refine g_icmp_eq (tgt := 1580) dL_law_824 (by decide) (fun c19 => ?_) (fun c19 => ?_)
      · replace K := K.1 c19
        exact K
      · replace K := K.2 c19
        refine g_iconst (v := 0) dL_law_827 (by decide) ?_
        exact g_zret dL_law_828 rfl K.1 K.2
    refine g_if_eq (tgt := 820) dL_law_813 (by decide) (fun c13 => ?_) (fun c13 => ?_)
    · refine g_iconst (v := 0) dL_law_820 (by decide) ?_
      first | (simp only [if_pos c13] at KJ; exact KJ) | (simp only [if_pos c13, ite_true, ite_false, eq_self] at KJ; exact KJ) | (simp only [if_pos c13] at KJ ⊢; exact KJ) | exact KJ
    · refine g_iconst (v := 1) dL_law_816 (by decide) ?_
      refine g_goto (tgt := 821) dL_law_817 (by decide) ?_
      first | (simp only [if_neg c13] at KJ; exact KJ) | (simp only [if_neg c13, ite_true, ite_false, eq_self] at KJ; exact KJ) | (simp only [if_neg c13] at KJ ⊢; exact KJ) | exact KJ
  refine g_if_eq (tgt := 796) dL_law_789 (by decide) (fun c3 => ?_) (fun c3 => ?_)
  · refine g_iconst (v := 0) dL_law_796 (by decide) ?_
    first | (simp only [if_pos c3] at KJ; exact KJ) | (simp only [if_pos c3, ite_true, ite_false, eq_self] at KJ; exact KJ) | (simp only [if_pos c3] at KJ ⊢; exact KJ) | exact KJ
  · refine g_iconst (v := 1) dL_law_792 (by decide) ?_
    refine g_goto (tgt := 797) dL_law_793 (by decide) ?_
    first | (simp only [if_neg c3] at KJ; exact KJ) | (simp only [if_neg c3, ite_true, ite_false, eq_self] at KJ; exact KJ) | (simp only [if_neg c3] at KJ ⊢; exact KJ) | exact KJ
set_option maxRecDepth 20000 in
set_option maxHeartbeats 4000000 in
theorem vL_law_829 {l : Launch} {x : CX} {xL : Nat} {xs : Nat → Int32} {a1 : Nat} {a2 : Nat} {a3 : Nat} {x4 : Int32} {h : PH} {rc rs n0 : Nat} {Q : Option Value → PH → Prop} {X : String → PH → Prop} (sz : ScrOk x xL xs)
    (K : (vp_in (x4 + 1) xL) ∧ ((hK h a1).1 = 7) ∧ ∃ (mc5 ms6 : Nat) (q3 : Int32 → PH → Prop), mc5 ≤ rc ∧ ms6 ≤ rs ∧ CI l x mX7_fire 5 mc5 ms6 [.ref a1, .int (if (xs (x4 + 1).toNatClampNeg) = 0 then 0 else 1 : Int32)] h q3 ∧ ∀ (r9 : Int32) (h8 : PH), q3 r9 h8 → (vp_in (x4 + 1) xL) ∧ ((hK h8 a2).1 = 8) ∧ ∃ (q12 : Int32 → PH → Prop), CI l x mX8_fire 2 0 0 [.ref a2, .int (if (xs (x4 + 1).toNatClampNeg) = 0 then 0 else 1 : Int32)] h8 q12 ∧ ∀ (r16 : Int32) (h15 : PH), q12 r16 h15 → ((r9 = r16 → Gm l x mL_law 15 1580 [(0, .retAddr 999), (1, .ref a1), (2, .ref a2), (3, .ref a3), (4, .int x4)] [] h15 (rc - mc5) (rs - ms6) n0 Q X) ∧ (¬ r9 = r16 → ((0 : Int32) = 0 ∨ (0 : Int32) = 1) ∧ Q (some (.int 0)) h15))) :
    Gm l x mL_law 15 829 [(0, .retAddr 999), (1, .ref a1), (2, .ref a2), (3, .ref a3), (4, .int x4)] [] h rc rs n0 Q X := by
  refine g_aload_n dL_law_829 rfl 1 rfl ?_
  refine g_aload_nT dL_law_830 rfl 0 rfl ?_
  refine g_iload dL_law_831 4 rfl ?_
  refine g_iconst (v := 1) dL_law_833 (by decide) ?_
  refine g_iadd dL_law_834 ?_
  obtain ⟨e1, K⟩ := K
  refine g_sld (xs := xs) dL_law_835 sz e1 ?_
  have KJ : Gm l x mL_law 15 844 [(0, .retAddr 999), (1, .ref a1), (2, .ref a2), (3, .ref a3), (4, .int x4)] [.int (if (xs (x4 + 1).toNatClampNeg) = 0 then 0 else 1 : Int32), .ref a1] h rc rs n0 Q X := by
    obtain ⟨e7, K⟩ := K
    obtain ⟨mc5, ms6, q3, e18, e19, C4, K⟩ := K
    refine g_callV (M' := mX7_fire) (b := a1) (As := [.int (if (xs (x4 + 1).toNatClampNeg) = 0 then 0 else 1 : Int32)]) (rest := []) (rc' := (rc - mc5)) (rs' := (rs - ms6)) dL_law_844 bw_636 bw_637 bw_638 bw_1 bw_639 ⟨by decide +kernel, by decide +kernel, show (parseMethodDescriptor mX7_fire.1.desc).map (fun d => d.parameters.length) = some 1 by decide +kernel⟩ (by decide) (by decide) (Nat.le_of_ble_eq_true rfl) fc_7 (by decide) rfl e7 C4 (by omega) (by omega) (fun _ _ h => h) ?_
    rintro _ h8 ⟨r9, rfl, K1⟩ -
    replace K := K r9 h8 K1
    show Gm l x mL_law 15 847 [(0, .retAddr 999), (1, .ref a1), (2, .ref a2), (3, .ref a3), (4, .int x4)] [.int r9] h8 (rc - mc5) (rs - ms6) n0 Q X
    refine g_aload_n dL_law_847 rfl 2 rfl ?_
    refine g_aload_nT dL_law_848 rfl 0 rfl ?_
    refine g_iload dL_law_849 4 rfl ?_
    refine g_iconst (v := 1) dL_law_851 (by decide) ?_
    refine g_iadd dL_law_852 ?_
    obtain ⟨e10, K⟩ := K
    refine g_sld (xs := xs) dL_law_853 sz e10 ?_
    have KJ : Gm l x mL_law 15 862 [(0, .retAddr 999), (1, .ref a1), (2, .ref a2), (3, .ref a3), (4, .int x4)] [.int (if (xs (x4 + 1).toNatClampNeg) = 0 then 0 else 1 : Int32), .ref a2, .int r9] h8 (rc - mc5) (rs - ms6) n0 Q X := by
      obtain ⟨e14, K⟩ := K
      obtain ⟨q12, C13, K⟩ := K
      refine g_callV (M' := mX8_fire) (b := a2) (As := [.int (if (xs (x4 + 1).toNatClampNeg) = 0 then 0 else 1 : Int32)]) (rest := [.int r9]) (rc' := (rc - mc5)) (rs' := (rs - ms6)) dL_law_862 bw_1663 bw_1664 bw_1665 bw_9 bw_1666 ⟨by decide +kernel, by decide +kernel, show (parseMethodDescriptor mX8_fire.1.desc).map (fun d => d.parameters.length) = some 1 by decide +kernel⟩ (by decide) (by decide) (Nat.le_of_ble_eq_true rfl) fc_8 (by decide) rfl e14 C13 (Nat.le_of_eq (Nat.add_zero _)) (Nat.le_of_eq (Nat.add_zero _)) (fun _ _ h => h) ?_
      rintro _ h15 ⟨r16, rfl, K1⟩ -
      replace K := K r16 h15 K1
      show Gm l x mL_law 15 865 [(0, .retAddr 999), (1, .ref a1), (2, .ref a2), (3, .ref a3), (4, .int x4)] [.int r16, .int r9] h15 (rc - mc5) (rs - ms6) n0 Q X
      refine g_icmp_eq (tgt := 1580) dL_law_865 (by decide) (fun c17 => ?_) (fun c17 => ?_)
      · replace K := K.1 c17
        exact K
      · replace K := K.2 c17
        refine g_iconst (v := 0) dL_law_868 (by decide) ?_
        exact g_zret dL_law_869 rfl K.1 K.2
    refine g_if_eq (tgt := 861) dL_law_854 (by decide) (fun c11 => ?_) (fun c11 => ?_)
    · refine g_iconst (v := 0) dL_law_861 (by decide) ?_
      first | (simp only [if_pos c11] at KJ; exact KJ) | (simp only [if_pos c11, ite_true, ite_false, eq_self] at KJ; exact KJ) | (simp only [if_pos c11] at KJ ⊢; exact KJ) | exact KJ
    · refine g_iconst (v := 1) dL_law_857 (by decide) ?_
      refine g_goto (tgt := 862) dL_law_858 (by decide) ?_
      first | (simp only [if_neg c11] at KJ; exact KJ) | (simp only [if_neg c11, ite_true, ite_false, eq_self] at KJ; exact KJ) | (simp only [if_neg c11] at KJ ⊢; exact KJ) | exact KJ
  refine g_if_eq (tgt := 843) dL_law_836 (by decide) (fun c2 => ?_) (fun c2 => ?_)
  · refine g_iconst (v := 0) dL_law_843 (by decide) ?_
    first | (simp only [if_pos c2] at KJ; exact KJ) | (simp only [if_pos c2, ite_true, ite_false, eq_self] at KJ; exact KJ) | (simp only [if_pos c2] at KJ ⊢; exact KJ) | exact KJ
  · refine g_iconst (v := 1) dL_law_839 (by decide) ?_
    refine g_goto (tgt := 844) dL_law_840 (by decide) ?_
    first | (simp only [if_neg c2] at KJ; exact KJ) | (simp only [if_neg c2, ite_true, ite_false, eq_self] at KJ; exact KJ) | (simp only [if_neg c2] at KJ ⊢; exact KJ) | exact KJ
set_option maxRecDepth 20000 in
set_option maxHeartbeats 4000000 in
theorem vL_law_870 {l : Launch} {x : CX} {xL : Nat} {xs : Nat → Int32} {a1 : Nat} {a2 : Nat} {a3 : Nat} {x4 : Int32} {h : PH} {rc rs n0 : Nat} {Q : Option Value → PH → Prop} {X : String → PH → Prop} (sz : ScrOk x xL xs)
    (K : (vp_in (x4 + 1) xL) ∧ (vp_in (x4 + 2) xL) ∧ ((hK h a1).1 = 7) ∧ ∃ (mc5 ms6 : Nat) (q3 : Int32 → PH → Prop), mc5 ≤ rc ∧ ms6 ≤ rs ∧ CI l x mX7_rule 5 mc5 ms6 [.ref a1, .int (xs (x4 + 1).toNatClampNeg), .int (xs (x4 + 2).toNatClampNeg)] h q3 ∧ ∀ (r9 : Int32) (h8 : PH), q3 r9 h8 → (vp_in (x4 + 1) xL) ∧ (vp_in (x4 + 2) xL) ∧ ((hK h8 a2).1 = 8) ∧ ∃ (q12 : Int32 → PH → Prop), CI l x mX8_rule 1 0 0 [.ref a2, .int (xs (x4 + 1).toNatClampNeg), .int (xs (x4 + 2).toNatClampNeg)] h8 q12 ∧ ∀ (r16 : Int32) (h15 : PH), q12 r16 h15 → ((r9 = r16 → Gm l x mL_law 15 1580 [(0, .retAddr 999), (1, .ref a1), (2, .ref a2), (3, .ref a3), (4, .int x4)] [] h15 (rc - mc5) (rs - ms6) n0 Q X) ∧ (¬ r9 = r16 → ((0 : Int32) = 0 ∨ (0 : Int32) = 1) ∧ Q (some (.int 0)) h15))) :
    Gm l x mL_law 15 870 [(0, .retAddr 999), (1, .ref a1), (2, .ref a2), (3, .ref a3), (4, .int x4)] [] h rc rs n0 Q X := by
  refine g_aload_n dL_law_870 rfl 1 rfl ?_
  refine g_aload_nT dL_law_871 rfl 0 rfl ?_
  refine g_iload dL_law_872 4 rfl ?_
  refine g_iconst (v := 1) dL_law_874 (by decide) ?_
  refine g_iadd dL_law_875 ?_
  obtain ⟨e1, K⟩ := K
  refine g_sld (xs := xs) dL_law_876 sz e1 ?_
  refine g_aload_nT dL_law_877 rfl 0 rfl ?_
  refine g_iload dL_law_878 4 rfl ?_
  refine g_iconst (v := 2) dL_law_880 (by decide) ?_
  refine g_iadd dL_law_881 ?_
  obtain ⟨e2, K⟩ := K
  refine g_sld (xs := xs) dL_law_882 sz e2 ?_
  obtain ⟨e7, K⟩ := K
  obtain ⟨mc5, ms6, q3, e18, e19, C4, K⟩ := K
  refine g_callV (M' := mX7_rule) (b := a1) (As := [.int (xs (x4 + 1).toNatClampNeg), .int (xs (x4 + 2).toNatClampNeg)]) (rest := []) (rc' := (rc - mc5)) (rs' := (rs - ms6)) dL_law_883 bw_640 bw_641 bw_642 bw_1 bw_643 ⟨by decide +kernel, by decide +kernel, show (parseMethodDescriptor mX7_rule.1.desc).map (fun d => d.parameters.length) = some 2 by decide +kernel⟩ (by decide) (by decide) (Nat.le_of_ble_eq_true rfl) fc_7 (by decide) rfl e7 C4 (by omega) (by omega) (fun _ _ h => h) ?_
  rintro _ h8 ⟨r9, rfl, K1⟩ -
  replace K := K r9 h8 K1
  show Gm l x mL_law 15 886 [(0, .retAddr 999), (1, .ref a1), (2, .ref a2), (3, .ref a3), (4, .int x4)] [.int r9] h8 (rc - mc5) (rs - ms6) n0 Q X
  refine g_aload_n dL_law_886 rfl 2 rfl ?_
  refine g_aload_nT dL_law_887 rfl 0 rfl ?_
  refine g_iload dL_law_888 4 rfl ?_
  refine g_iconst (v := 1) dL_law_890 (by decide) ?_
  refine g_iadd dL_law_891 ?_
  obtain ⟨e10, K⟩ := K
  refine g_sld (xs := xs) dL_law_892 sz e10 ?_
  refine g_aload_nT dL_law_893 rfl 0 rfl ?_
  refine g_iload dL_law_894 4 rfl ?_
  refine g_iconst (v := 2) dL_law_896 (by decide) ?_
  refine g_iadd dL_law_897 ?_
  obtain ⟨e11, K⟩ := K
  refine g_sld (xs := xs) dL_law_898 sz e11 ?_
  obtain ⟨e14, K⟩ := K
  obtain ⟨q12, C13, K⟩ := K
  refine g_callV (M' := mX8_rule) (b := a2) (As := [.int (xs (x4 + 1).toNatClampNeg), .int (xs (x4 + 2).toNatClampNeg)]) (rest := [.int r9]) (rc' := (rc - mc5)) (rs' := (rs - ms6)) dL_law_899 bw_1667 bw_1668 bw_1669 bw_9 bw_1670 ⟨by decide +kernel, by decide +kernel, show (parseMethodDescriptor mX8_rule.1.desc).map (fun d => d.parameters.length) = some 2 by decide +kernel⟩ (by decide) (by decide) (Nat.le_of_ble_eq_true rfl) fc_8 (by decide) rfl e14 C13 (Nat.le_of_eq (Nat.add_zero _)) (Nat.le_of_eq (Nat.add_zero _)) (fun _ _ h => h) ?_
  rintro _ h15 ⟨r16, rfl, K1⟩ -
  replace K := K r16 h15 K1
  show Gm l x mL_law 15 902 [(0, .retAddr 999), (1, .ref a1), (2, .ref a2), (3, .ref a3), (4, .int x4)] [.int r16, .int r9] h15 (rc - mc5) (rs - ms6) n0 Q X
  refine g_icmp_eq (tgt := 1580) dL_law_902 (by decide) (fun c17 => ?_) (fun c17 => ?_)
  · replace K := K.1 c17
    exact K
  · replace K := K.2 c17
    refine g_iconst (v := 0) dL_law_905 (by decide) ?_
    exact g_zret dL_law_906 rfl K.1 K.2
set_option maxRecDepth 20000 in
set_option maxHeartbeats 4000000 in
theorem vL_law_907 {l : Launch} {x : CX} {xL : Nat} {xs : Nat → Int32} {a1 : Nat} {a2 : Nat} {a3 : Nat} {x4 : Int32} {h : PH} {rc rs n0 : Nat} {Q : Option Value → PH → Prop} {X : String → PH → Prop} (sz : ScrOk x xL xs)
    (K : ((hK h a1).1 = 7) ∧ ∃ (mc3 ms4 : Nat) (q1 : Int32 → PH → Prop), mc3 ≤ rc ∧ ms4 ≤ rs ∧ CI l x mX7_undo 5 mc3 ms4 [.ref a1] h q1 ∧ ∀ (r7 : Int32) (h6 : PH), q1 r7 h6 → ((hK h6 a2).1 = 8) ∧ ∃ (q8 : Int32 → PH → Prop), CI l x mX8_undo 0 0 0 [.ref a2] h6 q8 ∧ ∀ (r12 : Int32) (h11 : PH), q8 r12 h11 → ((r7 = r12 → Gm l x mL_law 15 1580 [(0, .retAddr 999), (1, .ref a1), (2, .ref a2), (3, .ref a3), (4, .int x4)] [] h11 (rc - mc3) (rs - ms4) n0 Q X) ∧ (¬ r7 = r12 → ((0 : Int32) = 0 ∨ (0 : Int32) = 1) ∧ Q (some (.int 0)) h11))) :
    Gm l x mL_law 15 907 [(0, .retAddr 999), (1, .ref a1), (2, .ref a2), (3, .ref a3), (4, .int x4)] [] h rc rs n0 Q X := by
  refine g_aload_n dL_law_907 rfl 1 rfl ?_
  obtain ⟨e5, K⟩ := K
  obtain ⟨mc3, ms4, q1, e14, e15, C2, K⟩ := K
  refine g_callV (M' := mX7_undo) (b := a1) (As := []) (rest := []) (rc' := (rc - mc3)) (rs' := (rs - ms4)) dL_law_908 bw_644 bw_645 bw_646 bw_1 bw_647 ⟨by decide +kernel, by decide +kernel, show (parseMethodDescriptor mX7_undo.1.desc).map (fun d => d.parameters.length) = some 0 by decide +kernel⟩ (by decide) (by decide) (Nat.le_of_ble_eq_true rfl) fc_7 (by decide) rfl e5 C2 (by omega) (by omega) (fun _ _ h => h) ?_
  rintro _ h6 ⟨r7, rfl, K1⟩ -
  replace K := K r7 h6 K1
  show Gm l x mL_law 15 911 [(0, .retAddr 999), (1, .ref a1), (2, .ref a2), (3, .ref a3), (4, .int x4)] [.int r7] h6 (rc - mc3) (rs - ms4) n0 Q X
  refine g_aload_n dL_law_911 rfl 2 rfl ?_
  obtain ⟨e10, K⟩ := K
  obtain ⟨q8, C9, K⟩ := K
  refine g_callV (M' := mX8_undo) (b := a2) (As := []) (rest := [.int r7]) (rc' := (rc - mc3)) (rs' := (rs - ms4)) dL_law_912 bw_1671 bw_1672 bw_1673 bw_9 bw_1674 ⟨by decide +kernel, by decide +kernel, show (parseMethodDescriptor mX8_undo.1.desc).map (fun d => d.parameters.length) = some 0 by decide +kernel⟩ (by decide) (by decide) (Nat.le_of_ble_eq_true rfl) fc_8 (by decide) rfl e10 C9 (Nat.le_of_eq (Nat.add_zero _)) (Nat.le_of_eq (Nat.add_zero _)) (fun _ _ h => h) ?_
  rintro _ h11 ⟨r12, rfl, K1⟩ -
  replace K := K r12 h11 K1
  show Gm l x mL_law 15 915 [(0, .retAddr 999), (1, .ref a1), (2, .ref a2), (3, .ref a3), (4, .int x4)] [.int r12, .int r7] h11 (rc - mc3) (rs - ms4) n0 Q X
  refine g_icmp_eq (tgt := 1580) dL_law_915 (by decide) (fun c13 => ?_) (fun c13 => ?_)
  · replace K := K.1 c13
    exact K
  · replace K := K.2 c13
    refine g_iconst (v := 0) dL_law_918 (by decide) ?_
    exact g_zret dL_law_919 rfl K.1 K.2
set_option maxRecDepth 20000 in
set_option maxHeartbeats 4000000 in
theorem vL_law_920 {l : Launch} {x : CX} {xL : Nat} {xs : Nat → Int32} {a1 : Nat} {a2 : Nat} {a3 : Nat} {x4 : Int32} {h : PH} {rc rs n0 : Nat} {Q : Option Value → PH → Prop} {X : String → PH → Prop} (sz : ScrOk x xL xs)
    (K : (vp_in (x4 + 1) xL) ∧ (vp_in (x4 + 2) xL) ∧ ∃ (mc5 ms6 : Nat) (q3 : Int32 → PH → Prop), mc5 ≤ rc ∧ ms6 ≤ rs ∧ CHI l x mL_ahead hL_ahead 9 mc5 ms6 [.ref a1, .int (xs (x4 + 1).toNatClampNeg), .int (xs (x4 + 2).toNatClampNeg), .ref a3] h q3 ∧ ∀ (r8 : Int32) (h7 : PH), q3 r8 h7 → (vp_in (x4 + 1) xL) ∧ (vp_in (x4 + 2) xL) ∧ ((hK h7 a2).1 = 8) ∧ ∃ (q11 : Int32 → PH → Prop), CI l x mX8_ahead 12 0 0 [.ref a2, .int (xs (x4 + 1).toNatClampNeg), .int (xs (x4 + 2).toNatClampNeg)] h7 q11 ∧ ∀ (r15 : Int32) (h14 : PH), q11 r15 h14 → ((hK h14 a2).1 = 8) ∧ ∃ (q16 : Int32 → PH → Prop), CI l x mX8_thrown 0 0 0 [.ref a2] h14 q16 ∧ ∀ (r20 : Int32) (h19 : PH), q16 r20 h19 → ((r20 = r8 → ((¬ r8 = 0 → Gm l x mL_law 15 1580 [(0, .retAddr 999), (1, .ref a1), (2, .ref a2), (3, .ref a3), (4, .int x4)] [] h19 (rc - mc5) (rs - ms6) n0 Q X) ∧ (r8 = 0 → ((hK h19 a3).1 = 104) ∧ (vp_in 0 (hK h19 a3).2) ∧ (((lg_cmp (hL h19 a3 (Int32.toNatClampNeg 0)) r15.toInt64) = 0 → Gm l x mL_law 15 1580 [(0, .retAddr 999), (1, .ref a1), (2, .ref a2), (3, .ref a3), (4, .int x4)] [] h19 (rc - mc5) (rs - ms6) n0 Q X) ∧ (¬ (lg_cmp (hL h19 a3 (Int32.toNatClampNeg 0)) r15.toInt64) = 0 → ((0 : Int32) = 0 ∨ (0 : Int32) = 1) ∧ Q (some (.int 0)) h19))))) ∧ (¬ r20 = r8 → ((0 : Int32) = 0 ∨ (0 : Int32) = 1) ∧ Q (some (.int 0)) h19))) :
    Gm l x mL_law 15 920 [(0, .retAddr 999), (1, .ref a1), (2, .ref a2), (3, .ref a3), (4, .int x4)] [] h rc rs n0 Q X := by
  refine g_aload_n dL_law_920 rfl 1 rfl ?_
  refine g_aload_nT dL_law_921 rfl 0 rfl ?_
  refine g_iload dL_law_922 4 rfl ?_
  refine g_iconst (v := 1) dL_law_924 (by decide) ?_
  refine g_iadd dL_law_925 ?_
  obtain ⟨e1, K⟩ := K
  refine g_sld (xs := xs) dL_law_926 sz e1 ?_
  refine g_aload_nT dL_law_927 rfl 0 rfl ?_
  refine g_iload dL_law_928 4 rfl ?_
  refine g_iconst (v := 2) dL_law_930 (by decide) ?_
  refine g_iadd dL_law_931 ?_
  obtain ⟨e2, K⟩ := K
  refine g_sld (xs := xs) dL_law_932 sz e2 ?_
  refine g_aload_n dL_law_933 rfl 3 rfl ?_
  obtain ⟨mc5, ms6, q3, e26, e27, C4, K⟩ := K
  refine g_callH (M' := mL_ahead) (hh := hL_ahead) (As := [.ref a1, .int (xs (x4 + 1).toNatClampNeg), .int (xs (x4 + 2).toNatClampNeg), .ref a3]) (rest := []) (rc' := (rc - mc5)) (rs' := (rs - ms6)) dL_law_934 bw_1040 bw_1041 bw_0 bw_1042 ⟨by decide +kernel, by decide +kernel, show (parseMethodDescriptor mL_ahead.1.desc).map (fun d => d.parameters.length) = some 4 by decide +kernel⟩ (by decide) (by decide) (Nat.le_of_ble_eq_true rfl) C4 (by omega) (by omega) (fun _ _ h => h) ?_
  rintro _ h7 ⟨r8, rfl, K1⟩ -
  replace K := K r8 h7 K1
  show Gm l x mL_law 15 937 [(0, .retAddr 999), (1, .ref a1), (2, .ref a2), (3, .ref a3), (4, .int x4)] [.int r8] h7 (rc - mc5) (rs - ms6) n0 Q X
  refine g_istore (lv' := [(0, .retAddr 999), (1, .ref a1), (2, .ref a2), (3, .ref a3), (4, .int x4), (5, .int r8)]) dL_law_937 (by decide) rfl ?_
  refine g_aload_n dL_law_939 rfl 2 rfl ?_
  refine g_aload_nT dL_law_940 rfl 0 rfl ?_
  refine g_iload dL_law_941 4 rfl ?_
  refine g_iconst (v := 1) dL_law_943 (by decide) ?_
  refine g_iadd dL_law_944 ?_
  obtain ⟨e9, K⟩ := K
  refine g_sld (xs := xs) dL_law_945 sz e9 ?_
  refine g_aload_nT dL_law_946 rfl 0 rfl ?_
  refine g_iload dL_law_947 4 rfl ?_
  refine g_iconst (v := 2) dL_law_949 (by decide) ?_
  refine g_iadd dL_law_950 ?_
  obtain ⟨e10, K⟩ := K
  refine g_sld (xs := xs) dL_law_951 sz e10 ?_
  obtain ⟨e13, K⟩ := K
  obtain ⟨q11, C12, K⟩ := K
  refine g_callV (M' := mX8_ahead) (b := a2) (As := [.int (xs (x4 + 1).toNatClampNeg), .int (xs (x4 + 2).toNatClampNeg)]) (rest := []) (rc' := (rc - mc5)) (rs' := (rs - ms6)) dL_law_952 bw_1675 bw_1676 bw_1677 bw_9 bw_1678 ⟨by decide +kernel, by decide +kernel, show (parseMethodDescriptor mX8_ahead.1.desc).map (fun d => d.parameters.length) = some 2 by decide +kernel⟩ (by decide) (by decide) (Nat.le_of_ble_eq_true rfl) fc_8 (by decide) rfl e13 C12 (Nat.le_of_eq (Nat.add_zero _)) (Nat.le_of_eq (Nat.add_zero _)) (fun _ _ h => h) ?_
  rintro _ h14 ⟨r15, rfl, K1⟩ -
  replace K := K r15 h14 K1
  show Gm l x mL_law 15 955 [(0, .retAddr 999), (1, .ref a1), (2, .ref a2), (3, .ref a3), (4, .int x4), (5, .int r8)] [.int r15] h14 (rc - mc5) (rs - ms6) n0 Q X
  refine g_istore (lv' := [(0, .retAddr 999), (1, .ref a1), (2, .ref a2), (3, .ref a3), (4, .int x4), (5, .int r8), (6, .int r15)]) dL_law_955 (by decide) rfl ?_
  refine g_aload_n dL_law_957 rfl 2 rfl ?_
  obtain ⟨e18, K⟩ := K
  obtain ⟨q16, C17, K⟩ := K
  refine g_callV (M' := mX8_thrown) (b := a2) (As := []) (rest := []) (rc' := (rc - mc5)) (rs' := (rs - ms6)) dL_law_958 bw_1325 bw_1326 bw_1327 bw_9 bw_1328 ⟨by decide +kernel, by decide +kernel, show (parseMethodDescriptor mX8_thrown.1.desc).map (fun d => d.parameters.length) = some 0 by decide +kernel⟩ (by decide) (by decide) (Nat.le_of_ble_eq_true rfl) fc_8 (by decide) rfl e18 C17 (Nat.le_of_eq (Nat.add_zero _)) (Nat.le_of_eq (Nat.add_zero _)) (fun _ _ h => h) ?_
  rintro _ h19 ⟨r20, rfl, K1⟩ -
  replace K := K r20 h19 K1
  show Gm l x mL_law 15 961 [(0, .retAddr 999), (1, .ref a1), (2, .ref a2), (3, .ref a3), (4, .int x4), (5, .int r8), (6, .int r15)] [.int r20] h19 (rc - mc5) (rs - ms6) n0 Q X
  refine g_iload dL_law_961 5 rfl ?_
  refine g_icmp_eq (tgt := 968) dL_law_963 (by decide) (fun c21 => ?_) (fun c21 => ?_)
  · replace K := K.1 c21
    refine g_iload dL_law_968 5 rfl ?_
    refine g_if_ne (tgt := 985) dL_law_970 (by decide) (fun c22 => ?_) (fun c22 => ?_)
    · replace K := K.1 c22
      refine g_goto (tgt := 1580) dL_law_985 (by decide) ?_
      exact Gm.sub [0, 1, 2, 3, 4] rfl K
    · replace K := K.2 c22
      refine g_aload_n dL_law_973 rfl 3 rfl ?_
      refine g_iconst (v := 0) dL_law_974 (by decide) ?_
      obtain ⟨e23, e24, K⟩ := K
      refine g_lald dL_law_975 e23 e24 ?_
      refine g_iload dL_law_976 6 rfl ?_
      refine g_i2l dL_law_978 ?_
      refine g_lcmp dL_law_979 ?_
      refine g_if_eq (tgt := 985) dL_law_980 (by decide) (fun c25 => ?_) (fun c25 => ?_)
      · replace K := K.1 c25
        refine g_goto (tgt := 1580) dL_law_985 (by decide) ?_
        exact Gm.sub [0, 1, 2, 3, 4] rfl K
      · replace K := K.2 c25
        refine g_iconst (v := 0) dL_law_983 (by decide) ?_
        exact g_zret dL_law_984 rfl K.1 K.2
  · replace K := K.2 c21
    refine g_iconst (v := 0) dL_law_966 (by decide) ?_
    exact g_zret dL_law_967 rfl K.1 K.2
set_option maxRecDepth 20000 in
set_option maxHeartbeats 4000000 in
theorem vL_law_988 {l : Launch} {x : CX} {xL : Nat} {xs : Nat → Int32} {a1 : Nat} {a2 : Nat} {a3 : Nat} {x4 : Int32} {h : PH} {rc rs n0 : Nat} {Q : Option Value → PH → Prop} {X : String → PH → Prop} (sz : ScrOk x xL xs)
    (K : (vp_in (x4 + 1) xL) ∧ ∃ (mc4 ms5 : Nat) (q2 : Int32 → PH → Prop), mc4 ≤ rc ∧ ms5 ≤ rs ∧ CHI l x mL_when hL_when 9 mc4 ms5 [.ref a1, .int (xs (x4 + 1).toNatClampNeg), .ref a3] h q2 ∧ ∀ (r7 : Int32) (h6 : PH), q2 r7 h6 → (vp_in (x4 + 1) xL) ∧ ((hK h6 a2).1 = 8) ∧ ∃ (q9 : Int32 → PH → Prop), CI l x mX8_when 12 0 0 [.ref a2, .int (xs (x4 + 1).toNatClampNeg)] h6 q9 ∧ ∀ (r13 : Int32) (h12 : PH), q9 r13 h12 → ((hK h12 a2).1 = 8) ∧ ∃ (q14 : Int32 → PH → Prop), CI l x mX8_thrown 0 0 0 [.ref a2] h12 q14 ∧ ∀ (r18 : Int32) (h17 : PH), q14 r18 h17 → ((r18 = r7 → ((¬ r7 = 0 → Gm l x mL_law 15 1580 [(0, .retAddr 999), (1, .ref a1), (2, .ref a2), (3, .ref a3), (4, .int x4)] [] h17 (rc - mc4) (rs - ms5) n0 Q X) ∧ (r7 = 0 → ((hK h17 a3).1 = 104) ∧ (vp_in 0 (hK h17 a3).2) ∧ (((lg_cmp (hL h17 a3 (Int32.toNatClampNeg 0)) r13.toInt64) = 0 → Gm l x mL_law 15 1580 [(0, .retAddr 999), (1, .ref a1), (2, .ref a2), (3, .ref a3), (4, .int x4)] [] h17 (rc - mc4) (rs - ms5) n0 Q X) ∧ (¬ (lg_cmp (hL h17 a3 (Int32.toNatClampNeg 0)) r13.toInt64) = 0 → ((0 : Int32) = 0 ∨ (0 : Int32) = 1) ∧ Q (some (.int 0)) h17))))) ∧ (¬ r18 = r7 → ((0 : Int32) = 0 ∨ (0 : Int32) = 1) ∧ Q (some (.int 0)) h17))) :
    Gm l x mL_law 15 988 [(0, .retAddr 999), (1, .ref a1), (2, .ref a2), (3, .ref a3), (4, .int x4)] [] h rc rs n0 Q X := by
  refine g_aload_n dL_law_988 rfl 1 rfl ?_
  refine g_aload_nT dL_law_989 rfl 0 rfl ?_
  refine g_iload dL_law_990 4 rfl ?_
  refine g_iconst (v := 1) dL_law_992 (by decide) ?_
  refine g_iadd dL_law_993 ?_
  obtain ⟨e1, K⟩ := K
  refine g_sld (xs := xs) dL_law_994 sz e1 ?_
  refine g_aload_n dL_law_995 rfl 3 rfl ?_
  obtain ⟨mc4, ms5, q2, e24, e25, C3, K⟩ := K
  refine g_callH (M' := mL_when) (hh := hL_when) (As := [.ref a1, .int (xs (x4 + 1).toNatClampNeg), .ref a3]) (rest := []) (rc' := (rc - mc4)) (rs' := (rs - ms5)) dL_law_996 bw_1053 bw_1054 bw_0 bw_1055 ⟨by decide +kernel, by decide +kernel, show (parseMethodDescriptor mL_when.1.desc).map (fun d => d.parameters.length) = some 3 by decide +kernel⟩ (by decide) (by decide) (Nat.le_of_ble_eq_true rfl) C3 (by omega) (by omega) (fun _ _ h => h) ?_
  rintro _ h6 ⟨r7, rfl, K1⟩ -
  replace K := K r7 h6 K1
  show Gm l x mL_law 15 999 [(0, .retAddr 999), (1, .ref a1), (2, .ref a2), (3, .ref a3), (4, .int x4)] [.int r7] h6 (rc - mc4) (rs - ms5) n0 Q X
  refine g_istore (lv' := [(0, .retAddr 999), (1, .ref a1), (2, .ref a2), (3, .ref a3), (4, .int x4), (5, .int r7)]) dL_law_999 (by decide) rfl ?_
  refine g_aload_n dL_law_1001 rfl 2 rfl ?_
  refine g_aload_nT dL_law_1002 rfl 0 rfl ?_
  refine g_iload dL_law_1003 4 rfl ?_
  refine g_iconst (v := 1) dL_law_1005 (by decide) ?_
  refine g_iadd dL_law_1006 ?_
  obtain ⟨e8, K⟩ := K
  refine g_sld (xs := xs) dL_law_1007 sz e8 ?_
  obtain ⟨e11, K⟩ := K
  obtain ⟨q9, C10, K⟩ := K
  refine g_callV (M' := mX8_when) (b := a2) (As := [.int (xs (x4 + 1).toNatClampNeg)]) (rest := []) (rc' := (rc - mc4)) (rs' := (rs - ms5)) dL_law_1008 bw_1679 bw_1680 bw_1681 bw_9 bw_1682 ⟨by decide +kernel, by decide +kernel, show (parseMethodDescriptor mX8_when.1.desc).map (fun d => d.parameters.length) = some 1 by decide +kernel⟩ (by decide) (by decide) (Nat.le_of_ble_eq_true rfl) fc_8 (by decide) rfl e11 C10 (Nat.le_of_eq (Nat.add_zero _)) (Nat.le_of_eq (Nat.add_zero _)) (fun _ _ h => h) ?_
  rintro _ h12 ⟨r13, rfl, K1⟩ -
  replace K := K r13 h12 K1
  show Gm l x mL_law 15 1011 [(0, .retAddr 999), (1, .ref a1), (2, .ref a2), (3, .ref a3), (4, .int x4), (5, .int r7)] [.int r13] h12 (rc - mc4) (rs - ms5) n0 Q X
  refine g_istore (lv' := [(0, .retAddr 999), (1, .ref a1), (2, .ref a2), (3, .ref a3), (4, .int x4), (5, .int r7), (6, .int r13)]) dL_law_1011 (by decide) rfl ?_
  refine g_aload_n dL_law_1013 rfl 2 rfl ?_
  obtain ⟨e16, K⟩ := K
  obtain ⟨q14, C15, K⟩ := K
  refine g_callV (M' := mX8_thrown) (b := a2) (As := []) (rest := []) (rc' := (rc - mc4)) (rs' := (rs - ms5)) dL_law_1014 bw_1325 bw_1326 bw_1327 bw_9 bw_1328 ⟨by decide +kernel, by decide +kernel, show (parseMethodDescriptor mX8_thrown.1.desc).map (fun d => d.parameters.length) = some 0 by decide +kernel⟩ (by decide) (by decide) (Nat.le_of_ble_eq_true rfl) fc_8 (by decide) rfl e16 C15 (Nat.le_of_eq (Nat.add_zero _)) (Nat.le_of_eq (Nat.add_zero _)) (fun _ _ h => h) ?_
  rintro _ h17 ⟨r18, rfl, K1⟩ -
  replace K := K r18 h17 K1
  show Gm l x mL_law 15 1017 [(0, .retAddr 999), (1, .ref a1), (2, .ref a2), (3, .ref a3), (4, .int x4), (5, .int r7), (6, .int r13)] [.int r18] h17 (rc - mc4) (rs - ms5) n0 Q X
  refine g_iload dL_law_1017 5 rfl ?_
  refine g_icmp_eq (tgt := 1024) dL_law_1019 (by decide) (fun c19 => ?_) (fun c19 => ?_)
  · replace K := K.1 c19
    refine g_iload dL_law_1024 5 rfl ?_
    refine g_if_ne (tgt := 1041) dL_law_1026 (by decide) (fun c20 => ?_) (fun c20 => ?_)
    · replace K := K.1 c20
      refine g_goto (tgt := 1580) dL_law_1041 (by decide) ?_
      exact Gm.sub [0, 1, 2, 3, 4] rfl K
    · replace K := K.2 c20
      refine g_aload_n dL_law_1029 rfl 3 rfl ?_
      refine g_iconst (v := 0) dL_law_1030 (by decide) ?_
      obtain ⟨e21, e22, K⟩ := K
      refine g_lald dL_law_1031 e21 e22 ?_
      refine g_iload dL_law_1032 6 rfl ?_
      refine g_i2l dL_law_1034 ?_
      refine g_lcmp dL_law_1035 ?_
      refine g_if_eq (tgt := 1041) dL_law_1036 (by decide) (fun c23 => ?_) (fun c23 => ?_)
      · replace K := K.1 c23
        refine g_goto (tgt := 1580) dL_law_1041 (by decide) ?_
        exact Gm.sub [0, 1, 2, 3, 4] rfl K
      · replace K := K.2 c23
        refine g_iconst (v := 0) dL_law_1039 (by decide) ?_
        exact g_zret dL_law_1040 rfl K.1 K.2
  · replace K := K.2 c19
    refine g_iconst (v := 0) dL_law_1022 (by decide) ?_
    exact g_zret dL_law_1023 rfl K.1 K.2
set_option maxRecDepth 20000 in
set_option maxHeartbeats 4000000 in
theorem vL_law_1044 {l : Launch} {x : CX} {xL : Nat} {xs : Nat → Int32} {a1 : Nat} {a2 : Nat} {a3 : Nat} {x4 : Int32} {h : PH} {rc rs n0 : Nat} {Q : Option Value → PH → Prop} {X : String → PH → Prop} (sz : ScrOk x xL xs)
    (K : (vp_in (x4 + 1) xL) ∧ (vp_in (x4 + 2) xL) ∧ ∃ (mc5 ms6 : Nat) (q3 : Int32 → PH → Prop), mc5 ≤ rc ∧ ms6 ≤ rs ∧ CHI l x mL_mean hL_mean 9 mc5 ms6 [.ref a1, .int (xs (x4 + 1).toNatClampNeg), .int (xs (x4 + 2).toNatClampNeg), .ref a3] h q3 ∧ ∀ (r8 : Int32) (h7 : PH), q3 r8 h7 → (vp_in (x4 + 1) xL) ∧ (vp_in (x4 + 2) xL) ∧ ((hK h7 a2).1 = 8) ∧ ∃ (q11 : Int32 → PH → Prop), CI l x mX8_mean 13 0 0 [.ref a2, .int (xs (x4 + 1).toNatClampNeg), .int (xs (x4 + 2).toNatClampNeg)] h7 q11 ∧ ∀ (r15 : Int32) (h14 : PH), q11 r15 h14 → ((hK h14 a2).1 = 8) ∧ ∃ (q16 : Int32 → PH → Prop), CI l x mX8_thrown 0 0 0 [.ref a2] h14 q16 ∧ ∀ (r20 : Int32) (h19 : PH), q16 r20 h19 → ((r20 = r8 → ((¬ r8 = 0 → Gm l x mL_law 15 1580 [(0, .retAddr 999), (1, .ref a1), (2, .ref a2), (3, .ref a3), (4, .int x4)] [] h19 (rc - mc5) (rs - ms6) n0 Q X) ∧ (r8 = 0 → ((hK h19 a3).1 = 104) ∧ (vp_in 0 (hK h19 a3).2) ∧ (((lg_cmp (hL h19 a3 (Int32.toNatClampNeg 0)) r15.toInt64) = 0 → Gm l x mL_law 15 1580 [(0, .retAddr 999), (1, .ref a1), (2, .ref a2), (3, .ref a3), (4, .int x4)] [] h19 (rc - mc5) (rs - ms6) n0 Q X) ∧ (¬ (lg_cmp (hL h19 a3 (Int32.toNatClampNeg 0)) r15.toInt64) = 0 → ((0 : Int32) = 0 ∨ (0 : Int32) = 1) ∧ Q (some (.int 0)) h19))))) ∧ (¬ r20 = r8 → ((0 : Int32) = 0 ∨ (0 : Int32) = 1) ∧ Q (some (.int 0)) h19))) :
    Gm l x mL_law 15 1044 [(0, .retAddr 999), (1, .ref a1), (2, .ref a2), (3, .ref a3), (4, .int x4)] [] h rc rs n0 Q X := by
  refine g_aload_n dL_law_1044 rfl 1 rfl ?_
  refine g_aload_nT dL_law_1045 rfl 0 rfl ?_
  refine g_iload dL_law_1046 4 rfl ?_
  refine g_iconst (v := 1) dL_law_1048 (by decide) ?_
  refine g_iadd dL_law_1049 ?_
  obtain ⟨e1, K⟩ := K
  refine g_sld (xs := xs) dL_law_1050 sz e1 ?_
  refine g_aload_nT dL_law_1051 rfl 0 rfl ?_
  refine g_iload dL_law_1052 4 rfl ?_
  refine g_iconst (v := 2) dL_law_1054 (by decide) ?_
  refine g_iadd dL_law_1055 ?_
  obtain ⟨e2, K⟩ := K
  refine g_sld (xs := xs) dL_law_1056 sz e2 ?_
  refine g_aload_n dL_law_1057 rfl 3 rfl ?_
  obtain ⟨mc5, ms6, q3, e26, e27, C4, K⟩ := K
  refine g_callH (M' := mL_mean) (hh := hL_mean) (As := [.ref a1, .int (xs (x4 + 1).toNatClampNeg), .int (xs (x4 + 2).toNatClampNeg), .ref a3]) (rest := []) (rc' := (rc - mc5)) (rs' := (rs - ms6)) dL_law_1058 bw_1060 bw_1061 bw_0 bw_1062 ⟨by decide +kernel, by decide +kernel, show (parseMethodDescriptor mL_mean.1.desc).map (fun d => d.parameters.length) = some 4 by decide +kernel⟩ (by decide) (by decide) (Nat.le_of_ble_eq_true rfl) C4 (by omega) (by omega) (fun _ _ h => h) ?_
  rintro _ h7 ⟨r8, rfl, K1⟩ -
  replace K := K r8 h7 K1
  show Gm l x mL_law 15 1061 [(0, .retAddr 999), (1, .ref a1), (2, .ref a2), (3, .ref a3), (4, .int x4)] [.int r8] h7 (rc - mc5) (rs - ms6) n0 Q X
  refine g_istore (lv' := [(0, .retAddr 999), (1, .ref a1), (2, .ref a2), (3, .ref a3), (4, .int x4), (5, .int r8)]) dL_law_1061 (by decide) rfl ?_
  refine g_aload_n dL_law_1063 rfl 2 rfl ?_
  refine g_aload_nT dL_law_1064 rfl 0 rfl ?_
  refine g_iload dL_law_1065 4 rfl ?_
  refine g_iconst (v := 1) dL_law_1067 (by decide) ?_
  refine g_iadd dL_law_1068 ?_
  obtain ⟨e9, K⟩ := K
  refine g_sld (xs := xs) dL_law_1069 sz e9 ?_
  refine g_aload_nT dL_law_1070 rfl 0 rfl ?_
  refine g_iload dL_law_1071 4 rfl ?_
  refine g_iconst (v := 2) dL_law_1073 (by decide) ?_
  refine g_iadd dL_law_1074 ?_
  obtain ⟨e10, K⟩ := K
  refine g_sld (xs := xs) dL_law_1075 sz e10 ?_
  obtain ⟨e13, K⟩ := K
  obtain ⟨q11, C12, K⟩ := K
  refine g_callV (M' := mX8_mean) (b := a2) (As := [.int (xs (x4 + 1).toNatClampNeg), .int (xs (x4 + 2).toNatClampNeg)]) (rest := []) (rc' := (rc - mc5)) (rs' := (rs - ms6)) dL_law_1076 bw_1683 bw_1684 bw_1685 bw_9 bw_1686 ⟨by decide +kernel, by decide +kernel, show (parseMethodDescriptor mX8_mean.1.desc).map (fun d => d.parameters.length) = some 2 by decide +kernel⟩ (by decide) (by decide) (Nat.le_of_ble_eq_true rfl) fc_8 (by decide) rfl e13 C12 (Nat.le_of_eq (Nat.add_zero _)) (Nat.le_of_eq (Nat.add_zero _)) (fun _ _ h => h) ?_
  rintro _ h14 ⟨r15, rfl, K1⟩ -
  replace K := K r15 h14 K1
  show Gm l x mL_law 15 1079 [(0, .retAddr 999), (1, .ref a1), (2, .ref a2), (3, .ref a3), (4, .int x4), (5, .int r8)] [.int r15] h14 (rc - mc5) (rs - ms6) n0 Q X
  refine g_istore (lv' := [(0, .retAddr 999), (1, .ref a1), (2, .ref a2), (3, .ref a3), (4, .int x4), (5, .int r8), (6, .int r15)]) dL_law_1079 (by decide) rfl ?_
  refine g_aload_n dL_law_1081 rfl 2 rfl ?_
  obtain ⟨e18, K⟩ := K
  obtain ⟨q16, C17, K⟩ := K
  refine g_callV (M' := mX8_thrown) (b := a2) (As := []) (rest := []) (rc' := (rc - mc5)) (rs' := (rs - ms6)) dL_law_1082 bw_1325 bw_1326 bw_1327 bw_9 bw_1328 ⟨by decide +kernel, by decide +kernel, show (parseMethodDescriptor mX8_thrown.1.desc).map (fun d => d.parameters.length) = some 0 by decide +kernel⟩ (by decide) (by decide) (Nat.le_of_ble_eq_true rfl) fc_8 (by decide) rfl e18 C17 (Nat.le_of_eq (Nat.add_zero _)) (Nat.le_of_eq (Nat.add_zero _)) (fun _ _ h => h) ?_
  rintro _ h19 ⟨r20, rfl, K1⟩ -
  replace K := K r20 h19 K1
  show Gm l x mL_law 15 1085 [(0, .retAddr 999), (1, .ref a1), (2, .ref a2), (3, .ref a3), (4, .int x4), (5, .int r8), (6, .int r15)] [.int r20] h19 (rc - mc5) (rs - ms6) n0 Q X
  refine g_iload dL_law_1085 5 rfl ?_
  refine g_icmp_eq (tgt := 1092) dL_law_1087 (by decide) (fun c21 => ?_) (fun c21 => ?_)
  · replace K := K.1 c21
    refine g_iload dL_law_1092 5 rfl ?_
    refine g_if_ne (tgt := 1109) dL_law_1094 (by decide) (fun c22 => ?_) (fun c22 => ?_)
    · replace K := K.1 c22
      refine g_goto (tgt := 1580) dL_law_1109 (by decide) ?_
      exact Gm.sub [0, 1, 2, 3, 4] rfl K
    · replace K := K.2 c22
      refine g_aload_n dL_law_1097 rfl 3 rfl ?_
      refine g_iconst (v := 0) dL_law_1098 (by decide) ?_
      obtain ⟨e23, e24, K⟩ := K
      refine g_lald dL_law_1099 e23 e24 ?_
      refine g_iload dL_law_1100 6 rfl ?_
      refine g_i2l dL_law_1102 ?_
      refine g_lcmp dL_law_1103 ?_
      refine g_if_eq (tgt := 1109) dL_law_1104 (by decide) (fun c25 => ?_) (fun c25 => ?_)
      · replace K := K.1 c25
        refine g_goto (tgt := 1580) dL_law_1109 (by decide) ?_
        exact Gm.sub [0, 1, 2, 3, 4] rfl K
      · replace K := K.2 c25
        refine g_iconst (v := 0) dL_law_1107 (by decide) ?_
        exact g_zret dL_law_1108 rfl K.1 K.2
  · replace K := K.2 c21
    refine g_iconst (v := 0) dL_law_1090 (by decide) ?_
    exact g_zret dL_law_1091 rfl K.1 K.2
set_option maxRecDepth 20000 in
set_option maxHeartbeats 4000000 in
theorem vL_law_1112 {l : Launch} {x : CX} {xL : Nat} {xs : Nat → Int32} {a1 : Nat} {a2 : Nat} {a3 : Nat} {x4 : Int32} {h : PH} {rc rs n0 : Nat} {Q : Option Value → PH → Prop} {X : String → PH → Prop} (sz : ScrOk x xL xs)
    (K : (vp_in (x4 + 1) xL) ∧ (vp_in (x4 + 2) xL) ∧ (vp_in (x4 + 3) xL) ∧ ∃ (mc6 ms7 : Nat) (q4 : Int32 → PH → Prop), mc6 ≤ rc ∧ ms7 ≤ rs ∧ CHI l x mL_anew hL_anew 9 mc6 ms7 [.ref a1, .int (xs (x4 + 1).toNatClampNeg), .int (xs (x4 + 2).toNatClampNeg), .int (xs (x4 + 3).toNatClampNeg), .ref a3] h q4 ∧ ∀ (r9 : Int32) (h8 : PH), q4 r9 h8 → (vp_in (x4 + 1) xL) ∧ (vp_in (x4 + 2) xL) ∧ (vp_in (x4 + 3) xL) ∧ ((hK h8 a2).1 = 8) ∧ ∃ (q13 : Int32 → PH → Prop), CI l x mX8_anew 12 0 0 [.ref a2, .int (xs (x4 + 1).toNatClampNeg), .int (xs (x4 + 2).toNatClampNeg), .int (xs (x4 + 3).toNatClampNeg)] h8 q13 ∧ ∀ (r17 : Int32) (h16 : PH), q13 r17 h16 → ((hK h16 a2).1 = 8) ∧ ∃ (q18 : Int32 → PH → Prop), CI l x mX8_thrown 0 0 0 [.ref a2] h16 q18 ∧ ∀ (r22 : Int32) (h21 : PH), q18 r22 h21 → ((r22 = r9 → ((¬ r9 = 0 → Gm l x mL_law 15 1580 [(0, .retAddr 999), (1, .ref a1), (2, .ref a2), (3, .ref a3), (4, .int x4)] [] h21 (rc - mc6) (rs - ms7) n0 Q X) ∧ (r9 = 0 → ((hK h21 a3).1 = 104) ∧ (vp_in 0 (hK h21 a3).2) ∧ (((lg_cmp (hL h21 a3 (Int32.toNatClampNeg 0)) r17.toInt64) = 0 → Gm l x mL_law 15 1580 [(0, .retAddr 999), (1, .ref a1), (2, .ref a2), (3, .ref a3), (4, .int x4)] [] h21 (rc - mc6) (rs - ms7) n0 Q X) ∧ (¬ (lg_cmp (hL h21 a3 (Int32.toNatClampNeg 0)) r17.toInt64) = 0 → ((0 : Int32) = 0 ∨ (0 : Int32) = 1) ∧ Q (some (.int 0)) h21))))) ∧ (¬ r22 = r9 → ((0 : Int32) = 0 ∨ (0 : Int32) = 1) ∧ Q (some (.int 0)) h21))) :
    Gm l x mL_law 15 1112 [(0, .retAddr 999), (1, .ref a1), (2, .ref a2), (3, .ref a3), (4, .int x4)] [] h rc rs n0 Q X := by
  refine g_aload_n dL_law_1112 rfl 1 rfl ?_
  refine g_aload_nT dL_law_1113 rfl 0 rfl ?_
  refine g_iload dL_law_1114 4 rfl ?_
  refine g_iconst (v := 1) dL_law_1116 (by decide) ?_
  refine g_iadd dL_law_1117 ?_
  obtain ⟨e1, K⟩ := K
  refine g_sld (xs := xs) dL_law_1118 sz e1 ?_
  refine g_aload_nT dL_law_1119 rfl 0 rfl ?_
  refine g_iload dL_law_1120 4 rfl ?_
  refine g_iconst (v := 2) dL_law_1122 (by decide) ?_
  refine g_iadd dL_law_1123 ?_
  obtain ⟨e2, K⟩ := K
  refine g_sld (xs := xs) dL_law_1124 sz e2 ?_
  refine g_aload_nT dL_law_1125 rfl 0 rfl ?_
  refine g_iload dL_law_1126 4 rfl ?_
  refine g_iconst (v := 3) dL_law_1128 (by decide) ?_
  refine g_iadd dL_law_1129 ?_
  obtain ⟨e3, K⟩ := K
  refine g_sld (xs := xs) dL_law_1130 sz e3 ?_
  refine g_aload_n dL_law_1131 rfl 3 rfl ?_
  obtain ⟨mc6, ms7, q4, e28, e29, C5, K⟩ := K
  refine g_callH (M' := mL_anew) (hh := hL_anew) (As := [.ref a1, .int (xs (x4 + 1).toNatClampNeg), .int (xs (x4 + 2).toNatClampNeg), .int (xs (x4 + 3).toNatClampNeg), .ref a3]) (rest := []) (rc' := (rc - mc6)) (rs' := (rs - ms7)) dL_law_1132 bw_1075 bw_1076 bw_0 bw_1077 ⟨by decide +kernel, by decide +kernel, show (parseMethodDescriptor mL_anew.1.desc).map (fun d => d.parameters.length) = some 5 by decide +kernel⟩ (by decide) (by decide) (Nat.le_of_ble_eq_true rfl) C5 (by omega) (by omega) (fun _ _ h => h) ?_
  rintro _ h8 ⟨r9, rfl, K1⟩ -
  replace K := K r9 h8 K1
  show Gm l x mL_law 15 1135 [(0, .retAddr 999), (1, .ref a1), (2, .ref a2), (3, .ref a3), (4, .int x4)] [.int r9] h8 (rc - mc6) (rs - ms7) n0 Q X
  refine g_istore (lv' := [(0, .retAddr 999), (1, .ref a1), (2, .ref a2), (3, .ref a3), (4, .int x4), (5, .int r9)]) dL_law_1135 (by decide) rfl ?_
  refine g_aload_n dL_law_1137 rfl 2 rfl ?_
  refine g_aload_nT dL_law_1138 rfl 0 rfl ?_
  refine g_iload dL_law_1139 4 rfl ?_
  refine g_iconst (v := 1) dL_law_1141 (by decide) ?_
  refine g_iadd dL_law_1142 ?_
  obtain ⟨e10, K⟩ := K
  refine g_sld (xs := xs) dL_law_1143 sz e10 ?_
  refine g_aload_nT dL_law_1144 rfl 0 rfl ?_
  refine g_iload dL_law_1145 4 rfl ?_
  refine g_iconst (v := 2) dL_law_1147 (by decide) ?_
  refine g_iadd dL_law_1148 ?_
  obtain ⟨e11, K⟩ := K
  refine g_sld (xs := xs) dL_law_1149 sz e11 ?_
  refine g_aload_nT dL_law_1150 rfl 0 rfl ?_
  refine g_iload dL_law_1151 4 rfl ?_
  refine g_iconst (v := 3) dL_law_1153 (by decide) ?_
  refine g_iadd dL_law_1154 ?_
  obtain ⟨e12, K⟩ := K
  refine g_sld (xs := xs) dL_law_1155 sz e12 ?_
  obtain ⟨e15, K⟩ := K
  obtain ⟨q13, C14, K⟩ := K
  refine g_callV (M' := mX8_anew) (b := a2) (As := [.int (xs (x4 + 1).toNatClampNeg), .int (xs (x4 + 2).toNatClampNeg), .int (xs (x4 + 3).toNatClampNeg)]) (rest := []) (rc' := (rc - mc6)) (rs' := (rs - ms7)) dL_law_1156 bw_1690 bw_1691 bw_1692 bw_9 bw_1693 ⟨by decide +kernel, by decide +kernel, show (parseMethodDescriptor mX8_anew.1.desc).map (fun d => d.parameters.length) = some 3 by decide +kernel⟩ (by decide) (by decide) (Nat.le_of_ble_eq_true rfl) fc_8 (by decide) rfl e15 C14 (Nat.le_of_eq (Nat.add_zero _)) (Nat.le_of_eq (Nat.add_zero _)) (fun _ _ h => h) ?_
  rintro _ h16 ⟨r17, rfl, K1⟩ -
  replace K := K r17 h16 K1
  show Gm l x mL_law 15 1159 [(0, .retAddr 999), (1, .ref a1), (2, .ref a2), (3, .ref a3), (4, .int x4), (5, .int r9)] [.int r17] h16 (rc - mc6) (rs - ms7) n0 Q X
  refine g_istore (lv' := [(0, .retAddr 999), (1, .ref a1), (2, .ref a2), (3, .ref a3), (4, .int x4), (5, .int r9), (6, .int r17)]) dL_law_1159 (by decide) rfl ?_
  refine g_aload_n dL_law_1161 rfl 2 rfl ?_
  obtain ⟨e20, K⟩ := K
  obtain ⟨q18, C19, K⟩ := K
  refine g_callV (M' := mX8_thrown) (b := a2) (As := []) (rest := []) (rc' := (rc - mc6)) (rs' := (rs - ms7)) dL_law_1162 bw_1325 bw_1326 bw_1327 bw_9 bw_1328 ⟨by decide +kernel, by decide +kernel, show (parseMethodDescriptor mX8_thrown.1.desc).map (fun d => d.parameters.length) = some 0 by decide +kernel⟩ (by decide) (by decide) (Nat.le_of_ble_eq_true rfl) fc_8 (by decide) rfl e20 C19 (Nat.le_of_eq (Nat.add_zero _)) (Nat.le_of_eq (Nat.add_zero _)) (fun _ _ h => h) ?_
  rintro _ h21 ⟨r22, rfl, K1⟩ -
  replace K := K r22 h21 K1
  show Gm l x mL_law 15 1165 [(0, .retAddr 999), (1, .ref a1), (2, .ref a2), (3, .ref a3), (4, .int x4), (5, .int r9), (6, .int r17)] [.int r22] h21 (rc - mc6) (rs - ms7) n0 Q X
  refine g_iload dL_law_1165 5 rfl ?_
  refine g_icmp_eq (tgt := 1172) dL_law_1167 (by decide) (fun c23 => ?_) (fun c23 => ?_)
  · replace K := K.1 c23
    refine g_iload dL_law_1172 5 rfl ?_
    refine g_if_ne (tgt := 1189) dL_law_1174 (by decide) (fun c24 => ?_) (fun c24 => ?_)
    · replace K := K.1 c24
      refine g_goto (tgt := 1580) dL_law_1189 (by decide) ?_
      exact Gm.sub [0, 1, 2, 3, 4] rfl K
    · replace K := K.2 c24
      refine g_aload_n dL_law_1177 rfl 3 rfl ?_
      refine g_iconst (v := 0) dL_law_1178 (by decide) ?_
      obtain ⟨e25, e26, K⟩ := K
      refine g_lald dL_law_1179 e25 e26 ?_
      refine g_iload dL_law_1180 6 rfl ?_
      refine g_i2l dL_law_1182 ?_
      refine g_lcmp dL_law_1183 ?_
      refine g_if_eq (tgt := 1189) dL_law_1184 (by decide) (fun c27 => ?_) (fun c27 => ?_)
      · replace K := K.1 c27
        refine g_goto (tgt := 1580) dL_law_1189 (by decide) ?_
        exact Gm.sub [0, 1, 2, 3, 4] rfl K
      · replace K := K.2 c27
        refine g_iconst (v := 0) dL_law_1187 (by decide) ?_
        exact g_zret dL_law_1188 rfl K.1 K.2
  · replace K := K.2 c23
    refine g_iconst (v := 0) dL_law_1170 (by decide) ?_
    exact g_zret dL_law_1171 rfl K.1 K.2
set_option maxRecDepth 20000 in
set_option maxHeartbeats 4000000 in
theorem vL_law_1192 {l : Launch} {x : CX} {xL : Nat} {xs : Nat → Int32} {a1 : Nat} {a2 : Nat} {a3 : Nat} {x4 : Int32} {h : PH} {rc rs n0 : Nat} {Q : Option Value → PH → Prop} {X : String → PH → Prop} (sz : ScrOk x xL xs)
    (K : (vp_in (x4 + 1) xL) ∧ (vp_in (x4 + 2) xL) ∧ ∃ (mc5 ms6 : Nat) (q3 : Int32 → PH → Prop), mc5 ≤ rc ∧ ms6 ≤ rs ∧ CHI l x mL_homes hL_homes 9 mc5 ms6 [.ref a1, .int (xs (x4 + 1).toNatClampNeg), .int (xs (x4 + 2).toNatClampNeg), .ref a3] h q3 ∧ ∀ (r8 : Int32) (h7 : PH), q3 r8 h7 → (vp_in (x4 + 1) xL) ∧ (vp_in (x4 + 2) xL) ∧ ((hK h7 a2).1 = 8) ∧ ∃ (q11 : Int32 → PH → Prop), CI l x mX8_homes 13 0 0 [.ref a2, .int (xs (x4 + 1).toNatClampNeg), .int (xs (x4 + 2).toNatClampNeg)] h7 q11 ∧ ∀ (r15 : Int32) (h14 : PH), q11 r15 h14 → ((hK h14 a2).1 = 8) ∧ ∃ (q16 : Int32 → PH → Prop), CI l x mX8_thrown 0 0 0 [.ref a2] h14 q16 ∧ ∀ (r20 : Int32) (h19 : PH), q16 r20 h19 → ((r20 = r8 → ((¬ r8 = 0 → Gm l x mL_law 15 1580 [(0, .retAddr 999), (1, .ref a1), (2, .ref a2), (3, .ref a3), (4, .int x4)] [] h19 (rc - mc5) (rs - ms6) n0 Q X) ∧ (r8 = 0 → ((hK h19 a3).1 = 104) ∧ (vp_in 0 (hK h19 a3).2) ∧ (((lg_cmp (hL h19 a3 (Int32.toNatClampNeg 0)) r15.toInt64) = 0 → Gm l x mL_law 15 1580 [(0, .retAddr 999), (1, .ref a1), (2, .ref a2), (3, .ref a3), (4, .int x4)] [] h19 (rc - mc5) (rs - ms6) n0 Q X) ∧ (¬ (lg_cmp (hL h19 a3 (Int32.toNatClampNeg 0)) r15.toInt64) = 0 → ((0 : Int32) = 0 ∨ (0 : Int32) = 1) ∧ Q (some (.int 0)) h19))))) ∧ (¬ r20 = r8 → ((0 : Int32) = 0 ∨ (0 : Int32) = 1) ∧ Q (some (.int 0)) h19))) :
    Gm l x mL_law 15 1192 [(0, .retAddr 999), (1, .ref a1), (2, .ref a2), (3, .ref a3), (4, .int x4)] [] h rc rs n0 Q X := by
  refine g_aload_n dL_law_1192 rfl 1 rfl ?_
  refine g_aload_nT dL_law_1193 rfl 0 rfl ?_
  refine g_iload dL_law_1194 4 rfl ?_
  refine g_iconst (v := 1) dL_law_1196 (by decide) ?_
  refine g_iadd dL_law_1197 ?_
  obtain ⟨e1, K⟩ := K
  refine g_sld (xs := xs) dL_law_1198 sz e1 ?_
  refine g_aload_nT dL_law_1199 rfl 0 rfl ?_
  refine g_iload dL_law_1200 4 rfl ?_
  refine g_iconst (v := 2) dL_law_1202 (by decide) ?_
  refine g_iadd dL_law_1203 ?_
  obtain ⟨e2, K⟩ := K
  refine g_sld (xs := xs) dL_law_1204 sz e2 ?_
  refine g_aload_n dL_law_1205 rfl 3 rfl ?_
  obtain ⟨mc5, ms6, q3, e26, e27, C4, K⟩ := K
  refine g_callH (M' := mL_homes) (hh := hL_homes) (As := [.ref a1, .int (xs (x4 + 1).toNatClampNeg), .int (xs (x4 + 2).toNatClampNeg), .ref a3]) (rest := []) (rc' := (rc - mc5)) (rs' := (rs - ms6)) dL_law_1206 bw_1083 bw_1084 bw_0 bw_1085 ⟨by decide +kernel, by decide +kernel, show (parseMethodDescriptor mL_homes.1.desc).map (fun d => d.parameters.length) = some 4 by decide +kernel⟩ (by decide) (by decide) (Nat.le_of_ble_eq_true rfl) C4 (by omega) (by omega) (fun _ _ h => h) ?_
  rintro _ h7 ⟨r8, rfl, K1⟩ -
  replace K := K r8 h7 K1
  show Gm l x mL_law 15 1209 [(0, .retAddr 999), (1, .ref a1), (2, .ref a2), (3, .ref a3), (4, .int x4)] [.int r8] h7 (rc - mc5) (rs - ms6) n0 Q X
  refine g_istore (lv' := [(0, .retAddr 999), (1, .ref a1), (2, .ref a2), (3, .ref a3), (4, .int x4), (5, .int r8)]) dL_law_1209 (by decide) rfl ?_
  refine g_aload_n dL_law_1211 rfl 2 rfl ?_
  refine g_aload_nT dL_law_1212 rfl 0 rfl ?_
  refine g_iload dL_law_1213 4 rfl ?_
  refine g_iconst (v := 1) dL_law_1215 (by decide) ?_
  refine g_iadd dL_law_1216 ?_
  obtain ⟨e9, K⟩ := K
  refine g_sld (xs := xs) dL_law_1217 sz e9 ?_
  refine g_aload_nT dL_law_1218 rfl 0 rfl ?_
  refine g_iload dL_law_1219 4 rfl ?_
  refine g_iconst (v := 2) dL_law_1221 (by decide) ?_
  refine g_iadd dL_law_1222 ?_
  obtain ⟨e10, K⟩ := K
  refine g_sld (xs := xs) dL_law_1223 sz e10 ?_
  obtain ⟨e13, K⟩ := K
  obtain ⟨q11, C12, K⟩ := K
  refine g_callV (M' := mX8_homes) (b := a2) (As := [.int (xs (x4 + 1).toNatClampNeg), .int (xs (x4 + 2).toNatClampNeg)]) (rest := []) (rc' := (rc - mc5)) (rs' := (rs - ms6)) dL_law_1224 bw_1695 bw_1696 bw_1697 bw_9 bw_1698 ⟨by decide +kernel, by decide +kernel, show (parseMethodDescriptor mX8_homes.1.desc).map (fun d => d.parameters.length) = some 2 by decide +kernel⟩ (by decide) (by decide) (Nat.le_of_ble_eq_true rfl) fc_8 (by decide) rfl e13 C12 (Nat.le_of_eq (Nat.add_zero _)) (Nat.le_of_eq (Nat.add_zero _)) (fun _ _ h => h) ?_
  rintro _ h14 ⟨r15, rfl, K1⟩ -
  replace K := K r15 h14 K1
  show Gm l x mL_law 15 1227 [(0, .retAddr 999), (1, .ref a1), (2, .ref a2), (3, .ref a3), (4, .int x4), (5, .int r8)] [.int r15] h14 (rc - mc5) (rs - ms6) n0 Q X
  refine g_istore (lv' := [(0, .retAddr 999), (1, .ref a1), (2, .ref a2), (3, .ref a3), (4, .int x4), (5, .int r8), (6, .int r15)]) dL_law_1227 (by decide) rfl ?_
  refine g_aload_n dL_law_1229 rfl 2 rfl ?_
  obtain ⟨e18, K⟩ := K
  obtain ⟨q16, C17, K⟩ := K
  refine g_callV (M' := mX8_thrown) (b := a2) (As := []) (rest := []) (rc' := (rc - mc5)) (rs' := (rs - ms6)) dL_law_1230 bw_1325 bw_1326 bw_1327 bw_9 bw_1328 ⟨by decide +kernel, by decide +kernel, show (parseMethodDescriptor mX8_thrown.1.desc).map (fun d => d.parameters.length) = some 0 by decide +kernel⟩ (by decide) (by decide) (Nat.le_of_ble_eq_true rfl) fc_8 (by decide) rfl e18 C17 (Nat.le_of_eq (Nat.add_zero _)) (Nat.le_of_eq (Nat.add_zero _)) (fun _ _ h => h) ?_
  rintro _ h19 ⟨r20, rfl, K1⟩ -
  replace K := K r20 h19 K1
  show Gm l x mL_law 15 1233 [(0, .retAddr 999), (1, .ref a1), (2, .ref a2), (3, .ref a3), (4, .int x4), (5, .int r8), (6, .int r15)] [.int r20] h19 (rc - mc5) (rs - ms6) n0 Q X
  refine g_iload dL_law_1233 5 rfl ?_
  refine g_icmp_eq (tgt := 1240) dL_law_1235 (by decide) (fun c21 => ?_) (fun c21 => ?_)
  · replace K := K.1 c21
    refine g_iload dL_law_1240 5 rfl ?_
    refine g_if_ne (tgt := 1257) dL_law_1242 (by decide) (fun c22 => ?_) (fun c22 => ?_)
    · replace K := K.1 c22
      refine g_goto (tgt := 1580) dL_law_1257 (by decide) ?_
      exact Gm.sub [0, 1, 2, 3, 4] rfl K
    · replace K := K.2 c22
      refine g_aload_n dL_law_1245 rfl 3 rfl ?_
      refine g_iconst (v := 0) dL_law_1246 (by decide) ?_
      obtain ⟨e23, e24, K⟩ := K
      refine g_lald dL_law_1247 e23 e24 ?_
      refine g_iload dL_law_1248 6 rfl ?_
      refine g_i2l dL_law_1250 ?_
      refine g_lcmp dL_law_1251 ?_
      refine g_if_eq (tgt := 1257) dL_law_1252 (by decide) (fun c25 => ?_) (fun c25 => ?_)
      · replace K := K.1 c25
        refine g_goto (tgt := 1580) dL_law_1257 (by decide) ?_
        exact Gm.sub [0, 1, 2, 3, 4] rfl K
      · replace K := K.2 c25
        refine g_iconst (v := 0) dL_law_1255 (by decide) ?_
        exact g_zret dL_law_1256 rfl K.1 K.2
  · replace K := K.2 c21
    refine g_iconst (v := 0) dL_law_1238 (by decide) ?_
    exact g_zret dL_law_1239 rfl K.1 K.2
set_option maxRecDepth 20000 in
set_option maxHeartbeats 4000000 in
theorem vL_law_1260 {l : Launch} {x : CX} {xL : Nat} {xs : Nat → Int32} {a1 : Nat} {a2 : Nat} {a3 : Nat} {x4 : Int32} {h : PH} {rc rs n0 : Nat} {Q : Option Value → PH → Prop} {X : String → PH → Prop} (sz : ScrOk x xL xs)
    (K : (vp_in (x4 + 1) xL) ∧ ∃ (mc4 ms5 : Nat) (q2 : Int32 → PH → Prop), mc4 ≤ rc ∧ ms5 ≤ rs ∧ CHI l x mL_later hL_later 9 mc4 ms5 [.ref a1, .int (xs (x4 + 1).toNatClampNeg), .ref a3] h q2 ∧ ∀ (r7 : Int32) (h6 : PH), q2 r7 h6 → (vp_in (x4 + 1) xL) ∧ ((hK h6 a2).1 = 8) ∧ ∃ (q9 : Int32 → PH → Prop), CI l x mX8_later 13 0 0 [.ref a2, .int (xs (x4 + 1).toNatClampNeg)] h6 q9 ∧ ∀ (r13 : Int32) (h12 : PH), q9 r13 h12 → ((hK h12 a2).1 = 8) ∧ ∃ (q14 : Int32 → PH → Prop), CI l x mX8_thrown 0 0 0 [.ref a2] h12 q14 ∧ ∀ (r18 : Int32) (h17 : PH), q14 r18 h17 → ((r18 = r7 → ((¬ r7 = 0 → Gm l x mL_law 15 1580 [(0, .retAddr 999), (1, .ref a1), (2, .ref a2), (3, .ref a3), (4, .int x4)] [] h17 (rc - mc4) (rs - ms5) n0 Q X) ∧ (r7 = 0 → ((hK h17 a3).1 = 104) ∧ (vp_in 0 (hK h17 a3).2) ∧ (((lg_cmp (hL h17 a3 (Int32.toNatClampNeg 0)) r13.toInt64) = 0 → Gm l x mL_law 15 1580 [(0, .retAddr 999), (1, .ref a1), (2, .ref a2), (3, .ref a3), (4, .int x4)] [] h17 (rc - mc4) (rs - ms5) n0 Q X) ∧ (¬ (lg_cmp (hL h17 a3 (Int32.toNatClampNeg 0)) r13.toInt64) = 0 → ((0 : Int32) = 0 ∨ (0 : Int32) = 1) ∧ Q (some (.int 0)) h17))))) ∧ (¬ r18 = r7 → ((0 : Int32) = 0 ∨ (0 : Int32) = 1) ∧ Q (some (.int 0)) h17))) :
    Gm l x mL_law 15 1260 [(0, .retAddr 999), (1, .ref a1), (2, .ref a2), (3, .ref a3), (4, .int x4)] [] h rc rs n0 Q X := by
  refine g_aload_n dL_law_1260 rfl 1 rfl ?_
  refine g_aload_nT dL_law_1261 rfl 0 rfl ?_
  refine g_iload dL_law_1262 4 rfl ?_
  refine g_iconst (v := 1) dL_law_1264 (by decide) ?_
  refine g_iadd dL_law_1265 ?_
  obtain ⟨e1, K⟩ := K
  refine g_sld (xs := xs) dL_law_1266 sz e1 ?_
  refine g_aload_n dL_law_1267 rfl 3 rfl ?_
  obtain ⟨mc4, ms5, q2, e24, e25, C3, K⟩ := K
  refine g_callH (M' := mL_later) (hh := hL_later) (As := [.ref a1, .int (xs (x4 + 1).toNatClampNeg), .ref a3]) (rest := []) (rc' := (rc - mc4)) (rs' := (rs - ms5)) dL_law_1268 bw_1095 bw_1096 bw_0 bw_1097 ⟨by decide +kernel, by decide +kernel, show (parseMethodDescriptor mL_later.1.desc).map (fun d => d.parameters.length) = some 3 by decide +kernel⟩ (by decide) (by decide) (Nat.le_of_ble_eq_true rfl) C3 (by omega) (by omega) (fun _ _ h => h) ?_
  rintro _ h6 ⟨r7, rfl, K1⟩ -
  replace K := K r7 h6 K1
  show Gm l x mL_law 15 1271 [(0, .retAddr 999), (1, .ref a1), (2, .ref a2), (3, .ref a3), (4, .int x4)] [.int r7] h6 (rc - mc4) (rs - ms5) n0 Q X
  refine g_istore (lv' := [(0, .retAddr 999), (1, .ref a1), (2, .ref a2), (3, .ref a3), (4, .int x4), (5, .int r7)]) dL_law_1271 (by decide) rfl ?_
  refine g_aload_n dL_law_1273 rfl 2 rfl ?_
  refine g_aload_nT dL_law_1274 rfl 0 rfl ?_
  refine g_iload dL_law_1275 4 rfl ?_
  refine g_iconst (v := 1) dL_law_1277 (by decide) ?_
  refine g_iadd dL_law_1278 ?_
  obtain ⟨e8, K⟩ := K
  refine g_sld (xs := xs) dL_law_1279 sz e8 ?_
  obtain ⟨e11, K⟩ := K
  obtain ⟨q9, C10, K⟩ := K
  refine g_callV (M' := mX8_later) (b := a2) (As := [.int (xs (x4 + 1).toNatClampNeg)]) (rest := []) (rc' := (rc - mc4)) (rs' := (rs - ms5)) dL_law_1280 bw_1699 bw_1700 bw_1701 bw_9 bw_1702 ⟨by decide +kernel, by decide +kernel, show (parseMethodDescriptor mX8_later.1.desc).map (fun d => d.parameters.length) = some 1 by decide +kernel⟩ (by decide) (by decide) (Nat.le_of_ble_eq_true rfl) fc_8 (by decide) rfl e11 C10 (Nat.le_of_eq (Nat.add_zero _)) (Nat.le_of_eq (Nat.add_zero _)) (fun _ _ h => h) ?_
  rintro _ h12 ⟨r13, rfl, K1⟩ -
  replace K := K r13 h12 K1
  show Gm l x mL_law 15 1283 [(0, .retAddr 999), (1, .ref a1), (2, .ref a2), (3, .ref a3), (4, .int x4), (5, .int r7)] [.int r13] h12 (rc - mc4) (rs - ms5) n0 Q X
  refine g_istore (lv' := [(0, .retAddr 999), (1, .ref a1), (2, .ref a2), (3, .ref a3), (4, .int x4), (5, .int r7), (6, .int r13)]) dL_law_1283 (by decide) rfl ?_
  refine g_aload_n dL_law_1285 rfl 2 rfl ?_
  obtain ⟨e16, K⟩ := K
  obtain ⟨q14, C15, K⟩ := K
  refine g_callV (M' := mX8_thrown) (b := a2) (As := []) (rest := []) (rc' := (rc - mc4)) (rs' := (rs - ms5)) dL_law_1286 bw_1325 bw_1326 bw_1327 bw_9 bw_1328 ⟨by decide +kernel, by decide +kernel, show (parseMethodDescriptor mX8_thrown.1.desc).map (fun d => d.parameters.length) = some 0 by decide +kernel⟩ (by decide) (by decide) (Nat.le_of_ble_eq_true rfl) fc_8 (by decide) rfl e16 C15 (Nat.le_of_eq (Nat.add_zero _)) (Nat.le_of_eq (Nat.add_zero _)) (fun _ _ h => h) ?_
  rintro _ h17 ⟨r18, rfl, K1⟩ -
  replace K := K r18 h17 K1
  show Gm l x mL_law 15 1289 [(0, .retAddr 999), (1, .ref a1), (2, .ref a2), (3, .ref a3), (4, .int x4), (5, .int r7), (6, .int r13)] [.int r18] h17 (rc - mc4) (rs - ms5) n0 Q X
  refine g_iload dL_law_1289 5 rfl ?_
  refine g_icmp_eq (tgt := 1296) dL_law_1291 (by decide) (fun c19 => ?_) (fun c19 => ?_)
  · replace K := K.1 c19
    refine g_iload dL_law_1296 5 rfl ?_
    refine g_if_ne (tgt := 1313) dL_law_1298 (by decide) (fun c20 => ?_) (fun c20 => ?_)
    · replace K := K.1 c20
      refine g_goto (tgt := 1580) dL_law_1313 (by decide) ?_
      exact Gm.sub [0, 1, 2, 3, 4] rfl K
    · replace K := K.2 c20
      refine g_aload_n dL_law_1301 rfl 3 rfl ?_
      refine g_iconst (v := 0) dL_law_1302 (by decide) ?_
      obtain ⟨e21, e22, K⟩ := K
      refine g_lald dL_law_1303 e21 e22 ?_
      refine g_iload dL_law_1304 6 rfl ?_
      refine g_i2l dL_law_1306 ?_
      refine g_lcmp dL_law_1307 ?_
      refine g_if_eq (tgt := 1313) dL_law_1308 (by decide) (fun c23 => ?_) (fun c23 => ?_)
      · replace K := K.1 c23
        refine g_goto (tgt := 1580) dL_law_1313 (by decide) ?_
        exact Gm.sub [0, 1, 2, 3, 4] rfl K
      · replace K := K.2 c23
        refine g_iconst (v := 0) dL_law_1311 (by decide) ?_
        exact g_zret dL_law_1312 rfl K.1 K.2
  · replace K := K.2 c19
    refine g_iconst (v := 0) dL_law_1294 (by decide) ?_
    exact g_zret dL_law_1295 rfl K.1 K.2
set_option maxRecDepth 20000 in
set_option maxHeartbeats 4000000 in
theorem vL_law_1316 {l : Launch} {x : CX} {xL : Nat} {xs : Nat → Int32} {a1 : Nat} {a2 : Nat} {a3 : Nat} {x4 : Int32} {h : PH} {rc rs n0 : Nat} {Q : Option Value → PH → Prop} {X : String → PH → Prop} (sz : ScrOk x xL xs)
    (K : (vp_in (x4 + 1) xL) ∧ (vp_in (x4 + 2) xL) ∧ ((hK h a1).1 = 7) ∧ ∃ (q3 : Int32 → PH → Prop), CI l x mX7_note 1 0 0 [.ref a1, .int (xs (x4 + 1).toNatClampNeg), .int (xs (x4 + 2).toNatClampNeg)] h q3 ∧ ∀ (r7 : Int32) (h6 : PH), q3 r7 h6 → (vp_in (x4 + 1) xL) ∧ (vp_in (x4 + 2) xL) ∧ ((hK h6 a2).1 = 8) ∧ ∃ (q10 : Int32 → PH → Prop), CI l x mX8_note 1 0 0 [.ref a2, .int (xs (x4 + 1).toNatClampNeg), .int (xs (x4 + 2).toNatClampNeg)] h6 q10 ∧ ∀ (r14 : Int32) (h13 : PH), q10 r14 h13 → ((r7 = r14 → Gm l x mL_law 15 1580 [(0, .retAddr 999), (1, .ref a1), (2, .ref a2), (3, .ref a3), (4, .int x4)] [] h13 rc rs n0 Q X) ∧ (¬ r7 = r14 → ((0 : Int32) = 0 ∨ (0 : Int32) = 1) ∧ Q (some (.int 0)) h13))) :
    Gm l x mL_law 15 1316 [(0, .retAddr 999), (1, .ref a1), (2, .ref a2), (3, .ref a3), (4, .int x4)] [] h rc rs n0 Q X := by
  refine g_aload_n dL_law_1316 rfl 1 rfl ?_
  refine g_aload_nT dL_law_1317 rfl 0 rfl ?_
  refine g_iload dL_law_1318 4 rfl ?_
  refine g_iconst (v := 1) dL_law_1320 (by decide) ?_
  refine g_iadd dL_law_1321 ?_
  obtain ⟨e1, K⟩ := K
  refine g_sld (xs := xs) dL_law_1322 sz e1 ?_
  refine g_aload_nT dL_law_1323 rfl 0 rfl ?_
  refine g_iload dL_law_1324 4 rfl ?_
  refine g_iconst (v := 2) dL_law_1326 (by decide) ?_
  refine g_iadd dL_law_1327 ?_
  obtain ⟨e2, K⟩ := K
  refine g_sld (xs := xs) dL_law_1328 sz e2 ?_
  obtain ⟨e5, K⟩ := K
  obtain ⟨q3, C4, K⟩ := K
  refine g_callV (M' := mX7_note) (b := a1) (As := [.int (xs (x4 + 1).toNatClampNeg), .int (xs (x4 + 2).toNatClampNeg)]) (rest := []) (rc' := rc) (rs' := rs) dL_law_1329 bw_652 bw_653 bw_654 bw_1 bw_655 ⟨by decide +kernel, by decide +kernel, show (parseMethodDescriptor mX7_note.1.desc).map (fun d => d.parameters.length) = some 2 by decide +kernel⟩ (by decide) (by decide) (Nat.le_of_ble_eq_true rfl) fc_7 (by decide) rfl e5 C4 (Nat.le_of_eq (Nat.add_zero _)) (Nat.le_of_eq (Nat.add_zero _)) (fun _ _ h => h) ?_
  rintro _ h6 ⟨r7, rfl, K1⟩ -
  replace K := K r7 h6 K1
  show Gm l x mL_law 15 1332 [(0, .retAddr 999), (1, .ref a1), (2, .ref a2), (3, .ref a3), (4, .int x4)] [.int r7] h6 rc rs n0 Q X
  refine g_aload_n dL_law_1332 rfl 2 rfl ?_
  refine g_aload_nT dL_law_1333 rfl 0 rfl ?_
  refine g_iload dL_law_1334 4 rfl ?_
  refine g_iconst (v := 1) dL_law_1336 (by decide) ?_
  refine g_iadd dL_law_1337 ?_
  obtain ⟨e8, K⟩ := K
  refine g_sld (xs := xs) dL_law_1338 sz e8 ?_
  refine g_aload_nT dL_law_1339 rfl 0 rfl ?_
  refine g_iload dL_law_1340 4 rfl ?_
  refine g_iconst (v := 2) dL_law_1342 (by decide) ?_
  refine g_iadd dL_law_1343 ?_
  obtain ⟨e9, K⟩ := K
  refine g_sld (xs := xs) dL_law_1344 sz e9 ?_
  obtain ⟨e12, K⟩ := K
  obtain ⟨q10, C11, K⟩ := K
  refine g_callV (M' := mX8_note) (b := a2) (As := [.int (xs (x4 + 1).toNatClampNeg), .int (xs (x4 + 2).toNatClampNeg)]) (rest := [.int r7]) (rc' := rc) (rs' := rs) dL_law_1345 bw_1707 bw_1708 bw_1709 bw_9 bw_1710 ⟨by decide +kernel, by decide +kernel, show (parseMethodDescriptor mX8_note.1.desc).map (fun d => d.parameters.length) = some 2 by decide +kernel⟩ (by decide) (by decide) (Nat.le_of_ble_eq_true rfl) fc_8 (by decide) rfl e12 C11 (Nat.le_of_eq (Nat.add_zero _)) (Nat.le_of_eq (Nat.add_zero _)) (fun _ _ h => h) ?_
  rintro _ h13 ⟨r14, rfl, K1⟩ -
  replace K := K r14 h13 K1
  show Gm l x mL_law 15 1348 [(0, .retAddr 999), (1, .ref a1), (2, .ref a2), (3, .ref a3), (4, .int x4)] [.int r14, .int r7] h13 rc rs n0 Q X
  refine g_icmp_eq (tgt := 1580) dL_law_1348 (by decide) (fun c15 => ?_) (fun c15 => ?_)
  · replace K := K.1 c15
    exact K
  · replace K := K.2 c15
    refine g_iconst (v := 0) dL_law_1351 (by decide) ?_
    exact g_zret dL_law_1352 rfl K.1 K.2
set_option maxRecDepth 20000 in
set_option maxHeartbeats 4000000 in
theorem vL_law_1353 {l : Launch} {x : CX} {xL : Nat} {xs : Nat → Int32} {a1 : Nat} {a2 : Nat} {a3 : Nat} {x4 : Int32} {h : PH} {rc rs n0 : Nat} {Q : Option Value → PH → Prop} {X : String → PH → Prop} (sz : ScrOk x xL xs)
    (K : (vp_in (x4 + 1) xL) ∧ ∃ (mc4 ms5 : Nat) (q2 : Int32 → PH → Prop), mc4 ≤ rc ∧ ms5 ≤ rs ∧ CHI l x mL_fits hL_fits 9 mc4 ms5 [.ref a1, .int (xs (x4 + 1).toNatClampNeg), .ref a3] h q2 ∧ ∀ (r7 : Int32) (h6 : PH), q2 r7 h6 → (vp_in (x4 + 1) xL) ∧ ((hK h6 a2).1 = 8) ∧ ∃ (q9 : Int32 → PH → Prop), CI l x mX8_fits 13 0 0 [.ref a2, .int (xs (x4 + 1).toNatClampNeg)] h6 q9 ∧ ∀ (r13 : Int32) (h12 : PH), q9 r13 h12 → ((hK h12 a2).1 = 8) ∧ ∃ (q14 : Int32 → PH → Prop), CI l x mX8_thrown 0 0 0 [.ref a2] h12 q14 ∧ ∀ (r18 : Int32) (h17 : PH), q14 r18 h17 → ((r18 = r7 → ((¬ r7 = 0 → Gm l x mL_law 15 1580 [(0, .retAddr 999), (1, .ref a1), (2, .ref a2), (3, .ref a3), (4, .int x4)] [] h17 (rc - mc4) (rs - ms5) n0 Q X) ∧ (r7 = 0 → ((hK h17 a3).1 = 104) ∧ (vp_in 0 (hK h17 a3).2) ∧ (((lg_cmp (hL h17 a3 (Int32.toNatClampNeg 0)) r13.toInt64) = 0 → Gm l x mL_law 15 1580 [(0, .retAddr 999), (1, .ref a1), (2, .ref a2), (3, .ref a3), (4, .int x4)] [] h17 (rc - mc4) (rs - ms5) n0 Q X) ∧ (¬ (lg_cmp (hL h17 a3 (Int32.toNatClampNeg 0)) r13.toInt64) = 0 → ((0 : Int32) = 0 ∨ (0 : Int32) = 1) ∧ Q (some (.int 0)) h17))))) ∧ (¬ r18 = r7 → ((0 : Int32) = 0 ∨ (0 : Int32) = 1) ∧ Q (some (.int 0)) h17))) :
    Gm l x mL_law 15 1353 [(0, .retAddr 999), (1, .ref a1), (2, .ref a2), (3, .ref a3), (4, .int x4)] [] h rc rs n0 Q X := by
  refine g_aload_n dL_law_1353 rfl 1 rfl ?_
  refine g_aload_nT dL_law_1354 rfl 0 rfl ?_
  refine g_iload dL_law_1355 4 rfl ?_
  refine g_iconst (v := 1) dL_law_1357 (by decide) ?_
  refine g_iadd dL_law_1358 ?_
  obtain ⟨e1, K⟩ := K
  refine g_sld (xs := xs) dL_law_1359 sz e1 ?_
  refine g_aload_n dL_law_1360 rfl 3 rfl ?_
  obtain ⟨mc4, ms5, q2, e24, e25, C3, K⟩ := K
  refine g_callH (M' := mL_fits) (hh := hL_fits) (As := [.ref a1, .int (xs (x4 + 1).toNatClampNeg), .ref a3]) (rest := []) (rc' := (rc - mc4)) (rs' := (rs - ms5)) dL_law_1361 bw_1112 bw_1113 bw_0 bw_1114 ⟨by decide +kernel, by decide +kernel, show (parseMethodDescriptor mL_fits.1.desc).map (fun d => d.parameters.length) = some 3 by decide +kernel⟩ (by decide) (by decide) (Nat.le_of_ble_eq_true rfl) C3 (by omega) (by omega) (fun _ _ h => h) ?_
  rintro _ h6 ⟨r7, rfl, K1⟩ -
  replace K := K r7 h6 K1
  show Gm l x mL_law 15 1364 [(0, .retAddr 999), (1, .ref a1), (2, .ref a2), (3, .ref a3), (4, .int x4)] [.int r7] h6 (rc - mc4) (rs - ms5) n0 Q X
  refine g_istore (lv' := [(0, .retAddr 999), (1, .ref a1), (2, .ref a2), (3, .ref a3), (4, .int x4), (5, .int r7)]) dL_law_1364 (by decide) rfl ?_
  refine g_aload_n dL_law_1366 rfl 2 rfl ?_
  refine g_aload_nT dL_law_1367 rfl 0 rfl ?_
  refine g_iload dL_law_1368 4 rfl ?_
  refine g_iconst (v := 1) dL_law_1370 (by decide) ?_
  refine g_iadd dL_law_1371 ?_
  obtain ⟨e8, K⟩ := K
  refine g_sld (xs := xs) dL_law_1372 sz e8 ?_
  obtain ⟨e11, K⟩ := K
  obtain ⟨q9, C10, K⟩ := K
  refine g_callV (M' := mX8_fits) (b := a2) (As := [.int (xs (x4 + 1).toNatClampNeg)]) (rest := []) (rc' := (rc - mc4)) (rs' := (rs - ms5)) dL_law_1373 bw_1715 bw_1716 bw_1717 bw_9 bw_1718 ⟨by decide +kernel, by decide +kernel, show (parseMethodDescriptor mX8_fits.1.desc).map (fun d => d.parameters.length) = some 1 by decide +kernel⟩ (by decide) (by decide) (Nat.le_of_ble_eq_true rfl) fc_8 (by decide) rfl e11 C10 (Nat.le_of_eq (Nat.add_zero _)) (Nat.le_of_eq (Nat.add_zero _)) (fun _ _ h => h) ?_
  rintro _ h12 ⟨r13, rfl, K1⟩ -
  replace K := K r13 h12 K1
  show Gm l x mL_law 15 1376 [(0, .retAddr 999), (1, .ref a1), (2, .ref a2), (3, .ref a3), (4, .int x4), (5, .int r7)] [.int r13] h12 (rc - mc4) (rs - ms5) n0 Q X
  refine g_istore (lv' := [(0, .retAddr 999), (1, .ref a1), (2, .ref a2), (3, .ref a3), (4, .int x4), (5, .int r7), (6, .int r13)]) dL_law_1376 (by decide) rfl ?_
  refine g_aload_n dL_law_1378 rfl 2 rfl ?_
  obtain ⟨e16, K⟩ := K
  obtain ⟨q14, C15, K⟩ := K
  refine g_callV (M' := mX8_thrown) (b := a2) (As := []) (rest := []) (rc' := (rc - mc4)) (rs' := (rs - ms5)) dL_law_1379 bw_1325 bw_1326 bw_1327 bw_9 bw_1328 ⟨by decide +kernel, by decide +kernel, show (parseMethodDescriptor mX8_thrown.1.desc).map (fun d => d.parameters.length) = some 0 by decide +kernel⟩ (by decide) (by decide) (Nat.le_of_ble_eq_true rfl) fc_8 (by decide) rfl e16 C15 (Nat.le_of_eq (Nat.add_zero _)) (Nat.le_of_eq (Nat.add_zero _)) (fun _ _ h => h) ?_
  rintro _ h17 ⟨r18, rfl, K1⟩ -
  replace K := K r18 h17 K1
  show Gm l x mL_law 15 1382 [(0, .retAddr 999), (1, .ref a1), (2, .ref a2), (3, .ref a3), (4, .int x4), (5, .int r7), (6, .int r13)] [.int r18] h17 (rc - mc4) (rs - ms5) n0 Q X
  refine g_iload dL_law_1382 5 rfl ?_
  refine g_icmp_eq (tgt := 1389) dL_law_1384 (by decide) (fun c19 => ?_) (fun c19 => ?_)
  · replace K := K.1 c19
    refine g_iload dL_law_1389 5 rfl ?_
    refine g_if_ne (tgt := 1406) dL_law_1391 (by decide) (fun c20 => ?_) (fun c20 => ?_)
    · replace K := K.1 c20
      refine g_goto (tgt := 1580) dL_law_1406 (by decide) ?_
      exact Gm.sub [0, 1, 2, 3, 4] rfl K
    · replace K := K.2 c20
      refine g_aload_n dL_law_1394 rfl 3 rfl ?_
      refine g_iconst (v := 0) dL_law_1395 (by decide) ?_
      obtain ⟨e21, e22, K⟩ := K
      refine g_lald dL_law_1396 e21 e22 ?_
      refine g_iload dL_law_1397 6 rfl ?_
      refine g_i2l dL_law_1399 ?_
      refine g_lcmp dL_law_1400 ?_
      refine g_if_eq (tgt := 1406) dL_law_1401 (by decide) (fun c23 => ?_) (fun c23 => ?_)
      · replace K := K.1 c23
        refine g_goto (tgt := 1580) dL_law_1406 (by decide) ?_
        exact Gm.sub [0, 1, 2, 3, 4] rfl K
      · replace K := K.2 c23
        refine g_iconst (v := 0) dL_law_1404 (by decide) ?_
        exact g_zret dL_law_1405 rfl K.1 K.2
  · replace K := K.2 c19
    refine g_iconst (v := 0) dL_law_1387 (by decide) ?_
    exact g_zret dL_law_1388 rfl K.1 K.2
set_option maxRecDepth 20000 in
set_option maxHeartbeats 4000000 in
theorem vL_law_1409 {l : Launch} {x : CX} {xL : Nat} {xs : Nat → Int32} {a1 : Nat} {a2 : Nat} {a3 : Nat} {x4 : Int32} {h : PH} {rc rs n0 : Nat} {Q : Option Value → PH → Prop} {X : String → PH → Prop} (sz : ScrOk x xL xs)
    (K : (vp_in (x4 + 1) xL) ∧ ∃ (mc4 ms5 : Nat) (q2 : Int32 → PH → Prop), mc4 ≤ rc ∧ ms5 ≤ rs ∧ CHI l x mL_look hL_look 9 mc4 ms5 [.ref a1, .int (xs (x4 + 1).toNatClampNeg), .ref a3] h q2 ∧ ∀ (r7 : Int32) (h6 : PH), q2 r7 h6 → (vp_in (x4 + 1) xL) ∧ ((hK h6 a2).1 = 8) ∧ ∃ (q9 : Int32 → PH → Prop), CI l x mX8_look 13 0 0 [.ref a2, .int (xs (x4 + 1).toNatClampNeg)] h6 q9 ∧ ∀ (r13 : Int32) (h12 : PH), q9 r13 h12 → ((hK h12 a2).1 = 8) ∧ ∃ (q14 : Int32 → PH → Prop), CI l x mX8_thrown 0 0 0 [.ref a2] h12 q14 ∧ ∀ (r18 : Int32) (h17 : PH), q14 r18 h17 → ((r18 = r7 → ((¬ r7 = 0 → Gm l x mL_law 15 1580 [(0, .retAddr 999), (1, .ref a1), (2, .ref a2), (3, .ref a3), (4, .int x4)] [] h17 (rc - mc4) (rs - ms5) n0 Q X) ∧ (r7 = 0 → ((hK h17 a3).1 = 104) ∧ (vp_in 0 (hK h17 a3).2) ∧ (((lg_cmp (hL h17 a3 (Int32.toNatClampNeg 0)) r13.toInt64) = 0 → Gm l x mL_law 15 1580 [(0, .retAddr 999), (1, .ref a1), (2, .ref a2), (3, .ref a3), (4, .int x4)] [] h17 (rc - mc4) (rs - ms5) n0 Q X) ∧ (¬ (lg_cmp (hL h17 a3 (Int32.toNatClampNeg 0)) r13.toInt64) = 0 → ((0 : Int32) = 0 ∨ (0 : Int32) = 1) ∧ Q (some (.int 0)) h17))))) ∧ (¬ r18 = r7 → ((0 : Int32) = 0 ∨ (0 : Int32) = 1) ∧ Q (some (.int 0)) h17))) :
    Gm l x mL_law 15 1409 [(0, .retAddr 999), (1, .ref a1), (2, .ref a2), (3, .ref a3), (4, .int x4)] [] h rc rs n0 Q X := by
  refine g_aload_n dL_law_1409 rfl 1 rfl ?_
  refine g_aload_nT dL_law_1410 rfl 0 rfl ?_
  refine g_iload dL_law_1411 4 rfl ?_
  refine g_iconst (v := 1) dL_law_1413 (by decide) ?_
  refine g_iadd dL_law_1414 ?_
  obtain ⟨e1, K⟩ := K
  refine g_sld (xs := xs) dL_law_1415 sz e1 ?_
  refine g_aload_n dL_law_1416 rfl 3 rfl ?_
  obtain ⟨mc4, ms5, q2, e24, e25, C3, K⟩ := K
  refine g_callH (M' := mL_look) (hh := hL_look) (As := [.ref a1, .int (xs (x4 + 1).toNatClampNeg), .ref a3]) (rest := []) (rc' := (rc - mc4)) (rs' := (rs - ms5)) dL_law_1417 bw_1131 bw_1132 bw_0 bw_1133 ⟨by decide +kernel, by decide +kernel, show (parseMethodDescriptor mL_look.1.desc).map (fun d => d.parameters.length) = some 3 by decide +kernel⟩ (by decide) (by decide) (Nat.le_of_ble_eq_true rfl) C3 (by omega) (by omega) (fun _ _ h => h) ?_
  rintro _ h6 ⟨r7, rfl, K1⟩ -
  replace K := K r7 h6 K1
  show Gm l x mL_law 15 1420 [(0, .retAddr 999), (1, .ref a1), (2, .ref a2), (3, .ref a3), (4, .int x4)] [.int r7] h6 (rc - mc4) (rs - ms5) n0 Q X
  refine g_istore (lv' := [(0, .retAddr 999), (1, .ref a1), (2, .ref a2), (3, .ref a3), (4, .int x4), (5, .int r7)]) dL_law_1420 (by decide) rfl ?_
  refine g_aload_n dL_law_1422 rfl 2 rfl ?_
  refine g_aload_nT dL_law_1423 rfl 0 rfl ?_
  refine g_iload dL_law_1424 4 rfl ?_
  refine g_iconst (v := 1) dL_law_1426 (by decide) ?_
  refine g_iadd dL_law_1427 ?_
  obtain ⟨e8, K⟩ := K
  refine g_sld (xs := xs) dL_law_1428 sz e8 ?_
  obtain ⟨e11, K⟩ := K
  obtain ⟨q9, C10, K⟩ := K
  refine g_callV (M' := mX8_look) (b := a2) (As := [.int (xs (x4 + 1).toNatClampNeg)]) (rest := []) (rc' := (rc - mc4)) (rs' := (rs - ms5)) dL_law_1429 bw_1723 bw_1724 bw_1725 bw_9 bw_1726 ⟨by decide +kernel, by decide +kernel, show (parseMethodDescriptor mX8_look.1.desc).map (fun d => d.parameters.length) = some 1 by decide +kernel⟩ (by decide) (by decide) (Nat.le_of_ble_eq_true rfl) fc_8 (by decide) rfl e11 C10 (Nat.le_of_eq (Nat.add_zero _)) (Nat.le_of_eq (Nat.add_zero _)) (fun _ _ h => h) ?_
  rintro _ h12 ⟨r13, rfl, K1⟩ -
  replace K := K r13 h12 K1
  show Gm l x mL_law 15 1432 [(0, .retAddr 999), (1, .ref a1), (2, .ref a2), (3, .ref a3), (4, .int x4), (5, .int r7)] [.int r13] h12 (rc - mc4) (rs - ms5) n0 Q X
  refine g_istore (lv' := [(0, .retAddr 999), (1, .ref a1), (2, .ref a2), (3, .ref a3), (4, .int x4), (5, .int r7), (6, .int r13)]) dL_law_1432 (by decide) rfl ?_
  refine g_aload_n dL_law_1434 rfl 2 rfl ?_
  obtain ⟨e16, K⟩ := K
  obtain ⟨q14, C15, K⟩ := K
  refine g_callV (M' := mX8_thrown) (b := a2) (As := []) (rest := []) (rc' := (rc - mc4)) (rs' := (rs - ms5)) dL_law_1435 bw_1325 bw_1326 bw_1327 bw_9 bw_1328 ⟨by decide +kernel, by decide +kernel, show (parseMethodDescriptor mX8_thrown.1.desc).map (fun d => d.parameters.length) = some 0 by decide +kernel⟩ (by decide) (by decide) (Nat.le_of_ble_eq_true rfl) fc_8 (by decide) rfl e16 C15 (Nat.le_of_eq (Nat.add_zero _)) (Nat.le_of_eq (Nat.add_zero _)) (fun _ _ h => h) ?_
  rintro _ h17 ⟨r18, rfl, K1⟩ -
  replace K := K r18 h17 K1
  show Gm l x mL_law 15 1438 [(0, .retAddr 999), (1, .ref a1), (2, .ref a2), (3, .ref a3), (4, .int x4), (5, .int r7), (6, .int r13)] [.int r18] h17 (rc - mc4) (rs - ms5) n0 Q X
  refine g_iload dL_law_1438 5 rfl ?_
  refine g_icmp_eq (tgt := 1445) dL_law_1440 (by decide) (fun c19 => ?_) (fun c19 => ?_)
  · replace K := K.1 c19
    refine g_iload dL_law_1445 5 rfl ?_
    refine g_if_ne (tgt := 1462) dL_law_1447 (by decide) (fun c20 => ?_) (fun c20 => ?_)
    · replace K := K.1 c20
      refine g_goto (tgt := 1580) dL_law_1462 (by decide) ?_
      exact Gm.sub [0, 1, 2, 3, 4] rfl K
    · replace K := K.2 c20
      refine g_aload_n dL_law_1450 rfl 3 rfl ?_
      refine g_iconst (v := 0) dL_law_1451 (by decide) ?_
      obtain ⟨e21, e22, K⟩ := K
      refine g_lald dL_law_1452 e21 e22 ?_
      refine g_iload dL_law_1453 6 rfl ?_
      refine g_i2l dL_law_1455 ?_
      refine g_lcmp dL_law_1456 ?_
      refine g_if_eq (tgt := 1462) dL_law_1457 (by decide) (fun c23 => ?_) (fun c23 => ?_)
      · replace K := K.1 c23
        refine g_goto (tgt := 1580) dL_law_1462 (by decide) ?_
        exact Gm.sub [0, 1, 2, 3, 4] rfl K
      · replace K := K.2 c23
        refine g_iconst (v := 0) dL_law_1460 (by decide) ?_
        exact g_zret dL_law_1461 rfl K.1 K.2
  · replace K := K.2 c19
    refine g_iconst (v := 0) dL_law_1443 (by decide) ?_
    exact g_zret dL_law_1444 rfl K.1 K.2
set_option maxRecDepth 20000 in
set_option maxHeartbeats 4000000 in
theorem vL_law_1465 {l : Launch} {x : CX} {xL : Nat} {xs : Nat → Int32} {a1 : Nat} {a2 : Nat} {a3 : Nat} {x4 : Int32} {h : PH} {rc rs n0 : Nat} {Q : Option Value → PH → Prop} {X : String → PH → Prop} (sz : ScrOk x xL xs)
    (K : ((hK h a1).1 = 7) ∧ ∃ (q1 : PH → Prop), CV l x mX7_forget 0 0 0 [.ref a1] h q1 ∧ ∀ (h4 : PH), q1 h4 → ((hK h4 a2).1 = 8) ∧ ∃ (q5 : PH → Prop), CV l x mX8_forget 0 0 0 [.ref a2] h4 q5 ∧ ∀ (h8 : PH), q5 h8 → Gm l x mL_law 15 1580 [(0, .retAddr 999), (1, .ref a1), (2, .ref a2), (3, .ref a3), (4, .int x4)] [] h8 rc rs n0 Q X) :
    Gm l x mL_law 15 1465 [(0, .retAddr 999), (1, .ref a1), (2, .ref a2), (3, .ref a3), (4, .int x4)] [] h rc rs n0 Q X := by
  refine g_aload_n dL_law_1465 rfl 1 rfl ?_
  obtain ⟨e3, K⟩ := K
  obtain ⟨q1, C2, K⟩ := K
  refine g_callV (M' := mX7_forget) (b := a1) (As := []) (rest := []) (rc' := rc) (rs' := rs) dL_law_1466 bw_660 bw_661 bw_662 bw_1 bw_663 ⟨by decide +kernel, by decide +kernel, show (parseMethodDescriptor mX7_forget.1.desc).map (fun d => d.parameters.length) = some 0 by decide +kernel⟩ (by decide) (by decide) (Nat.le_of_ble_eq_true rfl) fc_7 (by decide) rfl e3 C2 (Nat.le_of_eq (Nat.add_zero _)) (Nat.le_of_eq (Nat.add_zero _)) (fun _ _ h => h) ?_
  rintro _ h4 ⟨rfl, K1⟩ -
  replace K := K h4 K1
  show Gm l x mL_law 15 1469 [(0, .retAddr 999), (1, .ref a1), (2, .ref a2), (3, .ref a3), (4, .int x4)] [] h4 rc rs n0 Q X
  refine g_aload_n dL_law_1469 rfl 2 rfl ?_
  obtain ⟨e7, K⟩ := K
  obtain ⟨q5, C6, K⟩ := K
  refine g_callV (M' := mX8_forget) (b := a2) (As := []) (rest := []) (rc' := rc) (rs' := rs) dL_law_1470 bw_1711 bw_1712 bw_1713 bw_9 bw_1714 ⟨by decide +kernel, by decide +kernel, show (parseMethodDescriptor mX8_forget.1.desc).map (fun d => d.parameters.length) = some 0 by decide +kernel⟩ (by decide) (by decide) (Nat.le_of_ble_eq_true rfl) fc_8 (by decide) rfl e7 C6 (Nat.le_of_eq (Nat.add_zero _)) (Nat.le_of_eq (Nat.add_zero _)) (fun _ _ h => h) ?_
  rintro _ h8 ⟨rfl, K1⟩ -
  replace K := K h8 K1
  show Gm l x mL_law 15 1473 [(0, .retAddr 999), (1, .ref a1), (2, .ref a2), (3, .ref a3), (4, .int x4)] [] h8 rc rs n0 Q X
  refine g_goto (tgt := 1580) dL_law_1473 (by decide) ?_
  exact K
set_option maxRecDepth 20000 in
set_option maxHeartbeats 4000000 in
theorem vL_law_1476 {l : Launch} {x : CX} {xL : Nat} {xs : Nat → Int32} {a1 : Nat} {a2 : Nat} {a3 : Nat} {x4 : Int32} {h : PH} {rc rs n0 : Nat} {Q : Option Value → PH → Prop} {X : String → PH → Prop} (sz : ScrOk x xL xs)
    (K : (vp_in (x4 + 1) xL) ∧ (vp_in (x4 + 2) xL) ∧ (vp_in (x4 + 3) xL) ∧ ∃ (mc6 ms7 : Nat) (q4 : Int32 → PH → Prop), mc6 ≤ rc ∧ ms7 ≤ rs ∧ CHI l x mL_years hL_years 9 mc6 ms7 [.ref a1, .int (xs (x4 + 1).toNatClampNeg), .int (xs (x4 + 2).toNatClampNeg), .int (xs (x4 + 3).toNatClampNeg), .ref a3] h q4 ∧ ∀ (r9 : Int32) (h8 : PH), q4 r9 h8 → (vp_in (x4 + 1) xL) ∧ (vp_in (x4 + 2) xL) ∧ (vp_in (x4 + 3) xL) ∧ ((hK h8 a2).1 = 8) ∧ ∃ (q13 : Int32 → PH → Prop), CI l x mX8_years 12 0 0 [.ref a2, .int (xs (x4 + 1).toNatClampNeg), .int (xs (x4 + 2).toNatClampNeg), .int (xs (x4 + 3).toNatClampNeg)] h8 q13 ∧ ∀ (r17 : Int32) (h16 : PH), q13 r17 h16 → ((hK h16 a2).1 = 8) ∧ ∃ (q18 : Int32 → PH → Prop), CI l x mX8_thrown 0 0 0 [.ref a2] h16 q18 ∧ ∀ (r22 : Int32) (h21 : PH), q18 r22 h21 → ((r22 = r9 → ((¬ r9 = 0 → Gm l x mL_law 15 1580 [(0, .retAddr 999), (1, .ref a1), (2, .ref a2), (3, .ref a3), (4, .int x4)] [] h21 (rc - mc6) (rs - ms7) n0 Q X) ∧ (r9 = 0 → ((hK h21 a3).1 = 104) ∧ (vp_in 0 (hK h21 a3).2) ∧ (((lg_cmp (hL h21 a3 (Int32.toNatClampNeg 0)) r17.toInt64) = 0 → Gm l x mL_law 15 1580 [(0, .retAddr 999), (1, .ref a1), (2, .ref a2), (3, .ref a3), (4, .int x4)] [] h21 (rc - mc6) (rs - ms7) n0 Q X) ∧ (¬ (lg_cmp (hL h21 a3 (Int32.toNatClampNeg 0)) r17.toInt64) = 0 → ((0 : Int32) = 0 ∨ (0 : Int32) = 1) ∧ Q (some (.int 0)) h21))))) ∧ (¬ r22 = r9 → ((0 : Int32) = 0 ∨ (0 : Int32) = 1) ∧ Q (some (.int 0)) h21))) :
    Gm l x mL_law 15 1476 [(0, .retAddr 999), (1, .ref a1), (2, .ref a2), (3, .ref a3), (4, .int x4)] [] h rc rs n0 Q X := by
  refine g_aload_n dL_law_1476 rfl 1 rfl ?_
  refine g_aload_nT dL_law_1477 rfl 0 rfl ?_
  refine g_iload dL_law_1478 4 rfl ?_
  refine g_iconst (v := 1) dL_law_1480 (by decide) ?_
  refine g_iadd dL_law_1481 ?_
  obtain ⟨e1, K⟩ := K
  refine g_sld (xs := xs) dL_law_1482 sz e1 ?_
  refine g_aload_nT dL_law_1483 rfl 0 rfl ?_
  refine g_iload dL_law_1484 4 rfl ?_
  refine g_iconst (v := 2) dL_law_1486 (by decide) ?_
  refine g_iadd dL_law_1487 ?_
  obtain ⟨e2, K⟩ := K
  refine g_sld (xs := xs) dL_law_1488 sz e2 ?_
  refine g_aload_nT dL_law_1489 rfl 0 rfl ?_
  refine g_iload dL_law_1490 4 rfl ?_
  refine g_iconst (v := 3) dL_law_1492 (by decide) ?_
  refine g_iadd dL_law_1493 ?_
  obtain ⟨e3, K⟩ := K
  refine g_sld (xs := xs) dL_law_1494 sz e3 ?_
  refine g_aload_n dL_law_1495 rfl 3 rfl ?_
  obtain ⟨mc6, ms7, q4, e28, e29, C5, K⟩ := K
  refine g_callH (M' := mL_years) (hh := hL_years) (As := [.ref a1, .int (xs (x4 + 1).toNatClampNeg), .int (xs (x4 + 2).toNatClampNeg), .int (xs (x4 + 3).toNatClampNeg), .ref a3]) (rest := []) (rc' := (rc - mc6)) (rs' := (rs - ms7)) dL_law_1496 bw_1144 bw_1145 bw_0 bw_1146 ⟨by decide +kernel, by decide +kernel, show (parseMethodDescriptor mL_years.1.desc).map (fun d => d.parameters.length) = some 5 by decide +kernel⟩ (by decide) (by decide) (Nat.le_of_ble_eq_true rfl) C5 (by omega) (by omega) (fun _ _ h => h) ?_
  rintro _ h8 ⟨r9, rfl, K1⟩ -
  replace K := K r9 h8 K1
  show Gm l x mL_law 15 1499 [(0, .retAddr 999), (1, .ref a1), (2, .ref a2), (3, .ref a3), (4, .int x4)] [.int r9] h8 (rc - mc6) (rs - ms7) n0 Q X
  refine g_istore (lv' := [(0, .retAddr 999), (1, .ref a1), (2, .ref a2), (3, .ref a3), (4, .int x4), (5, .int r9)]) dL_law_1499 (by decide) rfl ?_
  refine g_aload_n dL_law_1501 rfl 2 rfl ?_
  refine g_aload_nT dL_law_1502 rfl 0 rfl ?_
  refine g_iload dL_law_1503 4 rfl ?_
  refine g_iconst (v := 1) dL_law_1505 (by decide) ?_
  refine g_iadd dL_law_1506 ?_
  obtain ⟨e10, K⟩ := K
  refine g_sld (xs := xs) dL_law_1507 sz e10 ?_
  refine g_aload_nT dL_law_1508 rfl 0 rfl ?_
  refine g_iload dL_law_1509 4 rfl ?_
  refine g_iconst (v := 2) dL_law_1511 (by decide) ?_
  refine g_iadd dL_law_1512 ?_
  obtain ⟨e11, K⟩ := K
  refine g_sld (xs := xs) dL_law_1513 sz e11 ?_
  refine g_aload_nT dL_law_1514 rfl 0 rfl ?_
  refine g_iload dL_law_1515 4 rfl ?_
  refine g_iconst (v := 3) dL_law_1517 (by decide) ?_
  refine g_iadd dL_law_1518 ?_
  obtain ⟨e12, K⟩ := K
  refine g_sld (xs := xs) dL_law_1519 sz e12 ?_
  obtain ⟨e15, K⟩ := K
  obtain ⟨q13, C14, K⟩ := K
  refine g_callV (M' := mX8_years) (b := a2) (As := [.int (xs (x4 + 1).toNatClampNeg), .int (xs (x4 + 2).toNatClampNeg), .int (xs (x4 + 3).toNatClampNeg)]) (rest := []) (rc' := (rc - mc6)) (rs' := (rs - ms7)) dL_law_1520 bw_1731 bw_1732 bw_1733 bw_9 bw_1734 ⟨by decide +kernel, by decide +kernel, show (parseMethodDescriptor mX8_years.1.desc).map (fun d => d.parameters.length) = some 3 by decide +kernel⟩ (by decide) (by decide) (Nat.le_of_ble_eq_true rfl) fc_8 (by decide) rfl e15 C14 (Nat.le_of_eq (Nat.add_zero _)) (Nat.le_of_eq (Nat.add_zero _)) (fun _ _ h => h) ?_
  rintro _ h16 ⟨r17, rfl, K1⟩ -
  replace K := K r17 h16 K1
  show Gm l x mL_law 15 1523 [(0, .retAddr 999), (1, .ref a1), (2, .ref a2), (3, .ref a3), (4, .int x4), (5, .int r9)] [.int r17] h16 (rc - mc6) (rs - ms7) n0 Q X
  refine g_istore (lv' := [(0, .retAddr 999), (1, .ref a1), (2, .ref a2), (3, .ref a3), (4, .int x4), (5, .int r9), (6, .int r17)]) dL_law_1523 (by decide) rfl ?_
  refine g_aload_n dL_law_1525 rfl 2 rfl ?_
  obtain ⟨e20, K⟩ := K
  obtain ⟨q18, C19, K⟩ := K
  refine g_callV (M' := mX8_thrown) (b := a2) (As := []) (rest := []) (rc' := (rc - mc6)) (rs' := (rs - ms7)) dL_law_1526 bw_1325 bw_1326 bw_1327 bw_9 bw_1328 ⟨by decide +kernel, by decide +kernel, show (parseMethodDescriptor mX8_thrown.1.desc).map (fun d => d.parameters.length) = some 0 by decide +kernel⟩ (by decide) (by decide) (Nat.le_of_ble_eq_true rfl) fc_8 (by decide) rfl e20 C19 (Nat.le_of_eq (Nat.add_zero _)) (Nat.le_of_eq (Nat.add_zero _)) (fun _ _ h => h) ?_
  rintro _ h21 ⟨r22, rfl, K1⟩ -
  replace K := K r22 h21 K1
  show Gm l x mL_law 15 1529 [(0, .retAddr 999), (1, .ref a1), (2, .ref a2), (3, .ref a3), (4, .int x4), (5, .int r9), (6, .int r17)] [.int r22] h21 (rc - mc6) (rs - ms7) n0 Q X
  refine g_iload dL_law_1529 5 rfl ?_
  refine g_icmp_eq (tgt := 1536) dL_law_1531 (by decide) (fun c23 => ?_) (fun c23 => ?_)
  · replace K := K.1 c23
    refine g_iload dL_law_1536 5 rfl ?_
    refine g_if_ne (tgt := 1553) dL_law_1538 (by decide) (fun c24 => ?_) (fun c24 => ?_)
    · replace K := K.1 c24
      refine g_goto (tgt := 1580) dL_law_1553 (by decide) ?_
      exact Gm.sub [0, 1, 2, 3, 4] rfl K
    · replace K := K.2 c24
      refine g_aload_n dL_law_1541 rfl 3 rfl ?_
      refine g_iconst (v := 0) dL_law_1542 (by decide) ?_
      obtain ⟨e25, e26, K⟩ := K
      refine g_lald dL_law_1543 e25 e26 ?_
      refine g_iload dL_law_1544 6 rfl ?_
      refine g_i2l dL_law_1546 ?_
      refine g_lcmp dL_law_1547 ?_
      refine g_if_eq (tgt := 1553) dL_law_1548 (by decide) (fun c27 => ?_) (fun c27 => ?_)
      · replace K := K.1 c27
        refine g_goto (tgt := 1580) dL_law_1553 (by decide) ?_
        exact Gm.sub [0, 1, 2, 3, 4] rfl K
      · replace K := K.2 c27
        refine g_iconst (v := 0) dL_law_1551 (by decide) ?_
        exact g_zret dL_law_1552 rfl K.1 K.2
  · replace K := K.2 c23
    refine g_iconst (v := 0) dL_law_1534 (by decide) ?_
    exact g_zret dL_law_1535 rfl K.1 K.2
set_option maxRecDepth 20000 in
set_option maxHeartbeats 4000000 in
theorem vL_law_1556 {l : Launch} {x : CX} {xL : Nat} {xs : Nat → Int32} {a1 : Nat} {a2 : Nat} {a3 : Nat} {x4 : Int32} {h : PH} {rc rs n0 : Nat} {Q : Option Value → PH → Prop} {X : String → PH → Prop} (sz : ScrOk x xL xs)
    (K : ((hK h a1).1 = 7) ∧ ∃ (mc3 ms4 : Nat) (q1 : PH → Prop), mc3 ≤ rc ∧ ms4 ≤ rs ∧ CV l x mX7_image 6 mc3 ms4 [.ref a1] h q1 ∧ ∀ (h6 : PH), q1 h6 → ((hK h6 a2).1 = 8) ∧ ∃ (q7 : PH → Prop), CV l x mX8_image 1 0 0 [.ref a2] h6 q7 ∧ ∀ (h10 : PH), q7 h10 → Gm l x mL_law 15 1580 [(0, .retAddr 999), (1, .ref a1), (2, .ref a2), (3, .ref a3), (4, .int x4)] [] h10 (rc - mc3) (rs - ms4) n0 Q X) :
    Gm l x mL_law 15 1556 [(0, .retAddr 999), (1, .ref a1), (2, .ref a2), (3, .ref a3), (4, .int x4)] [] h rc rs n0 Q X := by
  refine g_aload_n dL_law_1556 rfl 1 rfl ?_
  obtain ⟨e5, K⟩ := K
  obtain ⟨mc3, ms4, q1, e11, e12, C2, K⟩ := K
  refine g_callV (M' := mX7_image) (b := a1) (As := []) (rest := []) (rc' := (rc - mc3)) (rs' := (rs - ms4)) dL_law_1557 bw_664 bw_665 bw_666 bw_1 bw_667 ⟨by decide +kernel, by decide +kernel, show (parseMethodDescriptor mX7_image.1.desc).map (fun d => d.parameters.length) = some 0 by decide +kernel⟩ (by decide) (by decide) (Nat.le_of_ble_eq_true rfl) fc_7 (by decide) rfl e5 C2 (by omega) (by omega) (fun _ _ h => h) ?_
  rintro _ h6 ⟨rfl, K1⟩ -
  replace K := K h6 K1
  show Gm l x mL_law 15 1560 [(0, .retAddr 999), (1, .ref a1), (2, .ref a2), (3, .ref a3), (4, .int x4)] [] h6 (rc - mc3) (rs - ms4) n0 Q X
  refine g_aload_n dL_law_1560 rfl 2 rfl ?_
  obtain ⟨e9, K⟩ := K
  obtain ⟨q7, C8, K⟩ := K
  refine g_callV (M' := mX8_image) (b := a2) (As := []) (rest := []) (rc' := (rc - mc3)) (rs' := (rs - ms4)) dL_law_1561 bw_1740 bw_1741 bw_1742 bw_9 bw_1743 ⟨by decide +kernel, by decide +kernel, show (parseMethodDescriptor mX8_image.1.desc).map (fun d => d.parameters.length) = some 0 by decide +kernel⟩ (by decide) (by decide) (Nat.le_of_ble_eq_true rfl) fc_8 (by decide) rfl e9 C8 (Nat.le_of_eq (Nat.add_zero _)) (Nat.le_of_eq (Nat.add_zero _)) (fun _ _ h => h) ?_
  rintro _ h10 ⟨rfl, K1⟩ -
  replace K := K h10 K1
  show Gm l x mL_law 15 1564 [(0, .retAddr 999), (1, .ref a1), (2, .ref a2), (3, .ref a3), (4, .int x4)] [] h10 (rc - mc3) (rs - ms4) n0 Q X
  refine g_goto (tgt := 1580) dL_law_1564 (by decide) ?_
  exact K
set_option maxRecDepth 20000 in
set_option maxHeartbeats 4000000 in
theorem vL_law_1567 {l : Launch} {x : CX} {xL : Nat} {xs : Nat → Int32} {a1 : Nat} {a2 : Nat} {a3 : Nat} {x4 : Int32} {h : PH} {rc rs n0 : Nat} {Q : Option Value → PH → Prop} {X : String → PH → Prop} (sz : ScrOk x xL xs)
    (K : ((hK h a1).1 = 7) ∧ ∃ (mc3 ms4 : Nat) (q1 : Int32 → PH → Prop), mc3 ≤ rc ∧ ms4 ≤ rs ∧ CI l x mX7_restore 6 mc3 ms4 [.ref a1] h q1 ∧ ∀ (r7 : Int32) (h6 : PH), q1 r7 h6 → ((hK h6 a2).1 = 8) ∧ ∃ (q8 : Int32 → PH → Prop), CI l x mX8_restore 1 0 0 [.ref a2] h6 q8 ∧ ∀ (r12 : Int32) (h11 : PH), q8 r12 h11 → ((r7 = r12 → Gm l x mL_law 15 1580 [(0, .retAddr 999), (1, .ref a1), (2, .ref a2), (3, .ref a3), (4, .int x4)] [] h11 (rc - mc3) (rs - ms4) n0 Q X) ∧ (¬ r7 = r12 → ((0 : Int32) = 0 ∨ (0 : Int32) = 1) ∧ Q (some (.int 0)) h11))) :
    Gm l x mL_law 15 1567 [(0, .retAddr 999), (1, .ref a1), (2, .ref a2), (3, .ref a3), (4, .int x4)] [] h rc rs n0 Q X := by
  refine g_aload_n dL_law_1567 rfl 1 rfl ?_
  obtain ⟨e5, K⟩ := K
  obtain ⟨mc3, ms4, q1, e14, e15, C2, K⟩ := K
  refine g_callV (M' := mX7_restore) (b := a1) (As := []) (rest := []) (rc' := (rc - mc3)) (rs' := (rs - ms4)) dL_law_1568 bw_677 bw_678 bw_679 bw_1 bw_680 ⟨by decide +kernel, by decide +kernel, show (parseMethodDescriptor mX7_restore.1.desc).map (fun d => d.parameters.length) = some 0 by decide +kernel⟩ (by decide) (by decide) (Nat.le_of_ble_eq_true rfl) fc_7 (by decide) rfl e5 C2 (by omega) (by omega) (fun _ _ h => h) ?_
  rintro _ h6 ⟨r7, rfl, K1⟩ -
  replace K := K r7 h6 K1
  show Gm l x mL_law 15 1571 [(0, .retAddr 999), (1, .ref a1), (2, .ref a2), (3, .ref a3), (4, .int x4)] [.int r7] h6 (rc - mc3) (rs - ms4) n0 Q X
  refine g_aload_n dL_law_1571 rfl 2 rfl ?_
  obtain ⟨e10, K⟩ := K
  obtain ⟨q8, C9, K⟩ := K
  refine g_callV (M' := mX8_restore) (b := a2) (As := []) (rest := [.int r7]) (rc' := (rc - mc3)) (rs' := (rs - ms4)) dL_law_1572 bw_1744 bw_1745 bw_1746 bw_9 bw_1747 ⟨by decide +kernel, by decide +kernel, show (parseMethodDescriptor mX8_restore.1.desc).map (fun d => d.parameters.length) = some 0 by decide +kernel⟩ (by decide) (by decide) (Nat.le_of_ble_eq_true rfl) fc_8 (by decide) rfl e10 C9 (Nat.le_of_eq (Nat.add_zero _)) (Nat.le_of_eq (Nat.add_zero _)) (fun _ _ h => h) ?_
  rintro _ h11 ⟨r12, rfl, K1⟩ -
  replace K := K r12 h11 K1
  show Gm l x mL_law 15 1575 [(0, .retAddr 999), (1, .ref a1), (2, .ref a2), (3, .ref a3), (4, .int x4)] [.int r12, .int r7] h11 (rc - mc3) (rs - ms4) n0 Q X
  refine g_icmp_eq (tgt := 1580) dL_law_1575 (by decide) (fun c13 => ?_) (fun c13 => ?_)
  · replace K := K.1 c13
    exact K
  · replace K := K.2 c13
    refine g_iconst (v := 0) dL_law_1578 (by decide) ?_
    exact g_zret dL_law_1579 rfl K.1 K.2
set_option maxRecDepth 20000 in
set_option maxHeartbeats 4000000 in
theorem vL_law_1580 {l : Launch} {x : CX} {xL : Nat} {xs : Nat → Int32} {a1 : Nat} {a2 : Nat} {a3 : Nat} {x4 : Int32} {h : PH} {rc rs n0 : Nat} {Q : Option Value → PH → Prop} {X : String → PH → Prop} (sz : ScrOk x xL xs)
    (K : Gm l x mL_law 15 23 [(0, .retAddr 999), (1, .ref a1), (2, .ref a2), (3, .ref a3), (4, .int (x4 + 6))] [] h rc rs n0 Q X) :
    Gm l x mL_law 15 1580 [(0, .retAddr 999), (1, .ref a1), (2, .ref a2), (3, .ref a3), (4, .int x4)] [] h rc rs n0 Q X := by
  refine g_iinc (v := (x4 + 6)) (lv' := [(0, .retAddr 999), (1, .ref a1), (2, .ref a2), (3, .ref a3), (4, .int (x4 + 6))]) dL_law_1580 4 rfl (by rfl) (by decide) rfl ?_
  refine g_goto (tgt := 23) dL_law_1583 (by decide) ?_
  exact K
