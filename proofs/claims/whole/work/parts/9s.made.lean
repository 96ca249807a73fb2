/-! THE REFERENCE: it is made -/
section MadeM
variable {l : Launch} {x : CX} {h h' : PH} {mo : Nat}
theorem seven (g : PH) (a : Nat) : ∀ j, j < 7 → hR (sR (sR (sR (sR (sR (sR (sR g a (Int32.toNatClampNeg 0) (some 10)) a (Int32.toNatClampNeg 1) (some 11)) a (Int32.toNatClampNeg 2) (some 12)) a (Int32.toNatClampNeg 3) (some 13)) a (Int32.toNatClampNeg 4) (some 14)) a (Int32.toNatClampNeg 5) (some 15)) a (Int32.toNatClampNeg 6) (some 16)) a j = some (10 + j) := by
  intro j hj
  rcases (show j = 0 ∨ j = 1 ∨ j = 2 ∨ j = 3 ∨ j = 4 ∨ j = 5 ∨ j = 6 by omega) with rfl | rfl | rfl | rfl | rfl | rfl | rfl
  · rw [sR_ne _ _ _ (by decide), sR_ne _ _ _ (by decide), sR_ne _ _ _ (by decide), sR_ne _ _ _ (by decide), sR_ne _ _ _ (by decide), sR_ne _ _ _ (by decide)]; exact sR_at _ _ _ _
  · rw [sR_ne _ _ _ (by decide), sR_ne _ _ _ (by decide), sR_ne _ _ _ (by decide), sR_ne _ _ _ (by decide), sR_ne _ _ _ (by decide)]; exact sR_at _ _ _ _
  · rw [sR_ne _ _ _ (by decide), sR_ne _ _ _ (by decide), sR_ne _ _ _ (by decide), sR_ne _ _ _ (by decide)]; exact sR_at _ _ _ _
  · rw [sR_ne _ _ _ (by decide), sR_ne _ _ _ (by decide), sR_ne _ _ _ (by decide)]; exact sR_at _ _ _ _
  · rw [sR_ne _ _ _ (by decide), sR_ne _ _ _ (by decide)]; exact sR_at _ _ _ _
  · rw [sR_ne _ _ _ (by decide)]; exact sR_at _ _ _ _
  · exact sR_at _ _ _ _
theorem txt_rows {h3 h30 : PH} (n3 : hN h3 = mo + 2) (k3 : hK h3 (mo + 1) = (108, 7)) (K3 : (hK h3 mo).1 = 8) (A3 : ∀ b, b ≠ mo + 1 → Ac b h h3) (e30 : h30 = nw (sR (sR (sR (sR (sR (sR (sR (sR h3 (mo + 1) (Int32.toNatClampNeg 0) (some 10)) (mo + 1) (Int32.toNatClampNeg 1) (some 11)) (mo + 1) (Int32.toNatClampNeg 2) (some 12)) (mo + 1) (Int32.toNatClampNeg 3) (some 13)) (mo + 1) (Int32.toNatClampNeg 4) (some 14)) (mo + 1) (Int32.toNatClampNeg 5) (some 15)) (mo + 1) (Int32.toNatClampNeg 6) (some 16)) mo 0 (some (mo + 1))) (100, 312)) : MK h mo 2 h30 := by
  have sv := seven h3 (mo + 1)
  have AX : ∀ b, b ≠ mo + 1 → Ac b h3 (sR (sR (sR (sR (sR (sR (sR h3 (mo + 1) (Int32.toNatClampNeg 0) (some 10)) (mo + 1) (Int32.toNatClampNeg 1) (some 11)) (mo + 1) (Int32.toNatClampNeg 2) (some 12)) (mo + 1) (Int32.toNatClampNeg 3) (some 13)) (mo + 1) (Int32.toNatClampNeg 4) (some 14)) (mo + 1) (Int32.toNatClampNeg 5) (some 15)) (mo + 1) (Int32.toNatClampNeg 6) (some 16)) := fun b hb => ((((((sR_Ac hb).trans (sR_Ac hb)).trans (sR_Ac hb)).trans (sR_Ac hb)).trans (sR_Ac hb)).trans (sR_Ac hb)).trans (sR_Ac hb)
  have nX : hN (sR (sR (sR (sR (sR (sR (sR h3 (mo + 1) (Int32.toNatClampNeg 0) (some 10)) (mo + 1) (Int32.toNatClampNeg 1) (some 11)) (mo + 1) (Int32.toNatClampNeg 2) (some 12)) (mo + 1) (Int32.toNatClampNeg 3) (some 13)) (mo + 1) (Int32.toNatClampNeg 4) (some 14)) (mo + 1) (Int32.toNatClampNeg 5) (some 15)) (mo + 1) (Int32.toNatClampNeg 6) (some 16)) = mo + 2 := n3
  have kX : hK (sR (sR (sR (sR (sR (sR (sR h3 (mo + 1) (Int32.toNatClampNeg 0) (some 10)) (mo + 1) (Int32.toNatClampNeg 1) (some 11)) (mo + 1) (Int32.toNatClampNeg 2) (some 12)) (mo + 1) (Int32.toNatClampNeg 3) (some 13)) (mo + 1) (Int32.toNatClampNeg 4) (some 14)) (mo + 1) (Int32.toNatClampNeg 5) (some 15)) (mo + 1) (Int32.toNatClampNeg 6) (some 16)) (mo + 1) = (108, 7) := k3
  generalize (sR (sR (sR (sR (sR (sR (sR h3 (mo + 1) (Int32.toNatClampNeg 0) (some 10)) (mo + 1) (Int32.toNatClampNeg 1) (some 11)) (mo + 1) (Int32.toNatClampNeg 2) (some 12)) (mo + 1) (Int32.toNatClampNeg 3) (some 13)) (mo + 1) (Int32.toNatClampNeg 4) (some 14)) (mo + 1) (Int32.toNatClampNeg 5) (some 15)) (mo + 1) (Int32.toNatClampNeg 6) (some 16)) = X at *
  obtain ⟨n1, k1, r1, o1, kd1, i1, A1, z1, _⟩ := st_new (d := mo) (by omega) e30
  rw [nX] at n1 k1 A1 z1
  have Am := A1 (mo + 1) (by omega) (by omega)
  have lo : ∀ q ∈ mtab, 2 ≤ q.2.1 := by decide
  have l2 : ∀ q ∈ mtab, q.2.1 ≤ 2 → q.2.1 = 2 ∧ q.2.2 = 312 := by decide
  refine ⟨n1, by rw [kd1, (AX mo (by omega)).1]; exact K3, fun b hb => ((A3 b (by omega)).trans (AX b (by omega))).trans (A1 b (by omega) (by omega)), fun p hp hk => absurd (lo p hp) (by omega), fun p hp hk => ?_, r1, by rw [Am.1]; exact kX, fun j hj => by rw [Am.hR]; exact sv j hj, fun j _ => by rw [i1, (AX mo (by omega)).hI, (A3 mo (by omega)).hI], fun p hp hk j => ?_⟩
  · rw [(l2 p hp hk).1, (l2 p hp hk).2]; exact k1
  · rw [(l2 p hp hk).1]; exact z1 j
theorem nw20 {g g' : PH} {f : Nat} {v : Option Nat} {k : Nat × Nat} (hm : mo < hN g) (e : g' = nw (sR g mo f v) k) (q : hI g mo 20 = -1) : hI g' mo 20 = -1 := by
  rw [e, hI_nw, if_neg (by rw [hN_sR]; omega), hI_sR]; exact q
theorem c_rows (O : XN x) (hk : (hK h mo).1 = 8) (hn : hN h = mo + 1) (Qm : PH → Prop) (fin : ∀ g, MK h mo 22 g → hI g mo 20 = -1 → ∃ q, CV l x mX8_layFirst 0 0 0 [.ref (mo + 4)] (sR g mo 41 (some (mo + 22))) q ∧ ∀ h116, q h116 → ((hK h116 mo).1 = 8) ∧ ∃ q2, CV l x mX8_begin 1 0 0 [.ref mo] h116 q2 ∧ ∀ h120, q2 h120 → Qm h120) : CV l x mX8_init 2 22 28383 [.ref mo] h Qm := by
  refine Cm.of (by decide) (Nat.le_of_ble_eq_true rfl) (vX8_init_0 ⟨by decide, by decide, O.ao_String, ?_⟩)
  rintro h3 e3
  have k3 : hK h3 (mo + 1) = (108, 7) := by rw [e3, ← hn]; exact nw_K _ _
  have n3 : hN h3 = mo + 2 := by rw [e3, hN_nw, hn]
  have A3 : ∀ b, b ≠ mo + 1 → Ac b h h3 := fun b hb => by rw [e3]; exact nw_Ac (by omega)
  clear e3
  rw [hn]
  have vi : ∀ n, n < 7 → vp_in (nI n) (hK h3 (mo + 1)).2 := fun n hn => by rw [k3]; exact vp_in_nI hn (by decide)
  have K3 : (hK h3 mo).1 = 8 := by rw [(A3 mo (by omega)).1]; exact hk
  refine ⟨O.tx_RX8_9, by rw [k3], vi 0 (by decide), O.any_10, O.tx_RX8_11, vi 1 (by decide), O.any_11, O.tx_RX8_13, vi 2 (by decide), O.any_12, O.tx_RX8_15, vi 3 (by decide), O.any_13, O.tx_RX8_17, vi 4 (by decide), O.any_14, O.tx_RX8_19, vi 5 (by decide), O.any_15, O.tx_RX8_21, vi 6 (by decide), O.any_16, K3, by decide, by decide, ?_⟩
  rintro h30 e30
  have M2 : MK h mo 2 h30 := txt_rows n3 k3 K3 A3 e30
  clear e30
  refine ⟨M2.2.1, by decide, by decide, ?_⟩
  simp only [hN_sR, hN_sI, n3]
  rintro h34 e34
  have M3 : MK h mo 3 h34 := M2.step (f := 2) (by decide) (by decide) (by decide) (by decide) (by decide) e34
  clear e34
  refine ⟨M3.2.1, by decide, by decide, ?_⟩
  simp only [M2.1]
  rintro h38 e38
  have M4 : MK h mo 4 h38 := M3.step (f := 3) (by decide) (by decide) (by decide) (by decide) (by decide) e38
  clear e38
  refine ⟨M4.2.1, by decide, by decide, ?_⟩
  simp only [M3.1]
  rintro h42 e42
  have M5 : MK h mo 5 h42 := M4.step (f := 4) (by decide) (by decide) (by decide) (by decide) (by decide) e42
  clear e42
  refine ⟨M5.2.1, by decide, by decide, ?_⟩
  simp only [M4.1]
  rintro h46 e46
  have M6 : MK h mo 6 h46 := M5.step (f := 5) (by decide) (by decide) (by decide) (by decide) (by decide) e46
  clear e46
  refine ⟨M6.2.1, by decide, by decide, ?_⟩
  simp only [M5.1]
  rintro h50 e50
  have M7 : MK h mo 7 h50 := M6.step (f := 6) (by decide) (by decide) (by decide) (by decide) (by decide) e50
  clear e50
  refine ⟨M7.2.1, by decide, by decide, ?_⟩
  simp only [M6.1]
  rintro h54 e54
  have M8 : MK h mo 8 h54 := M7.step (f := 7) (by decide) (by decide) (by decide) (by decide) (by decide) e54
  clear e54
  refine ⟨M8.2.1, by decide, by decide, ?_⟩
  simp only [M7.1]
  rintro h58 e58
  have M9 : MK h mo 9 h58 := M8.step (f := 8) (by decide) (by decide) (by decide) (by decide) (by decide) e58
  clear e58
  refine ⟨M9.2.1, by decide, by decide, ?_⟩
  simp only [M8.1]
  rintro h62 e62
  have M10 : MK h mo 10 h62 := M9.step (f := 9) (by decide) (by decide) (by decide) (by decide) (by decide) e62
  clear e62
  refine ⟨M10.2.1, by decide, by decide, ?_⟩
  simp only [M9.1]
  rintro h66 e66
  have M11 : MK h mo 11 h66 := M10.s20.step (f := 10) (by decide) (by decide) (by decide) (by decide) (by decide) e66
  have f11 : hI h66 mo 20 = -1 := by rw [e66, hI_nw, if_neg (by rw [hN_sI, hN_sR, M10.1]; omega)]; exact gI _ _ _ _
  clear e66
  refine ⟨M11.2.1, by decide, by decide, ?_⟩
  simp only [M10.1]
  rintro h70 e70
  have M12 : MK h mo 12 h70 := M11.step (f := 22) (by decide) (by decide) (by decide) (by decide) (by decide) e70
  have f12 : hI h70 mo 20 = -1 := nw20 (by rw [M11.1]; omega) e70 f11
  clear e70
  refine ⟨M12.2.1, by decide, by decide, ?_⟩
  simp only [M11.1]
  rintro h74 e74
  have M13 : MK h mo 13 h74 := M12.step (f := 23) (by decide) (by decide) (by decide) (by decide) (by decide) e74
  have f13 : hI h74 mo 20 = -1 := nw20 (by rw [M12.1]; omega) e74 f12
  clear e74
  refine ⟨M13.2.1, by decide, by decide, ?_⟩
  simp only [M12.1]
  rintro h78 e78
  have M14 : MK h mo 14 h78 := M13.step (f := 25) (by decide) (by decide) (by decide) (by decide) (by decide) e78
  have f14 : hI h78 mo 20 = -1 := nw20 (by rw [M13.1]; omega) e78 f13
  clear e78
  refine ⟨M14.2.1, by decide, by decide, ?_⟩
  simp only [M13.1]
  rintro h82 e82
  have M15 : MK h mo 15 h82 := M14.step (f := 27) (by decide) (by decide) (by decide) (by decide) (by decide) e82
  have f15 : hI h82 mo 20 = -1 := nw20 (by rw [M14.1]; omega) e82 f14
  clear e82
  refine ⟨M15.2.1, by decide, by decide, ?_⟩
  simp only [M14.1]
  rintro h86 e86
  have M16 : MK h mo 16 h86 := M15.step (f := 28) (by decide) (by decide) (by decide) (by decide) (by decide) e86
  have f16 : hI h86 mo 20 = -1 := nw20 (by rw [M15.1]; omega) e86 f15
  clear e86
  refine ⟨M16.2.1, by decide, by decide, ?_⟩
  simp only [M15.1]
  rintro h90 e90
  have M17 : MK h mo 17 h90 := M16.step (f := 31) (by decide) (by decide) (by decide) (by decide) (by decide) e90
  have f17 : hI h90 mo 20 = -1 := nw20 (by rw [M16.1]; omega) e90 f16
  clear e90
  refine ⟨M17.2.1, by decide, by decide, ?_⟩
  simp only [M16.1]
  rintro h94 e94
  have M18 : MK h mo 18 h94 := M17.step (f := 33) (by decide) (by decide) (by decide) (by decide) (by decide) e94
  have f18 : hI h94 mo 20 = -1 := nw20 (by rw [M17.1]; omega) e94 f17
  clear e94
  refine ⟨M18.2.1, by decide, by decide, ?_⟩
  simp only [M17.1]
  rintro h98 e98
  have M19 : MK h mo 19 h98 := M18.step (f := 37) (by decide) (by decide) (by decide) (by decide) (by decide) e98
  have f19 : hI h98 mo 20 = -1 := nw20 (by rw [M18.1]; omega) e98 f18
  clear e98
  refine ⟨M19.2.1, by decide, by decide, ?_⟩
  simp only [M18.1]
  rintro h102 e102
  have M20 : MK h mo 20 h102 := M19.step (f := 38) (by decide) (by decide) (by decide) (by decide) (by decide) e102
  have f20 : hI h102 mo 20 = -1 := nw20 (by rw [M19.1]; omega) e102 f19
  clear e102
  refine ⟨M20.2.1, by decide, by decide, ?_⟩
  simp only [M19.1]
  rintro h106 e106
  have M21 : MK h mo 21 h106 := M20.step (f := 39) (by decide) (by decide) (by decide) (by decide) (by decide) e106
  have f21 : hI h106 mo 20 = -1 := nw20 (by rw [M20.1]; omega) e106 f20
  clear e106
  refine ⟨M21.2.1, by decide, by decide, ?_⟩
  simp only [M20.1]
  rintro h110 e110
  have M22 : MK h mo 22 h110 := M21.step (f := 40) (by decide) (by decide) (by decide) (by decide) (by decide) e110
  have f22 : hI h110 mo 20 = -1 := nw20 (by rw [M21.1]; omega) e110 f21
  clear e110
  simp only [M21.1]
  refine ⟨M22.2.1, mo + 4, ?_, ?_⟩
  · rw [sR_ne _ _ _ (by decide)]; exact M22.2.2.2.1 (4, 4, 7) (by decide) (by decide)
  · obtain ⟨q, q1, q2⟩ := fin h110 M22 f22
    exact ⟨q, q1, fun h116 z => ⟨(q2 h116 z).1, by obtain ⟨r, r1, r2⟩ := (q2 h116 z).2; exact ⟨r, r1, fun h120 y => ⟨trivial, r2 h120 y⟩⟩⟩⟩
end MadeM
