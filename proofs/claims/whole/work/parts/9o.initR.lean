/-! THE CLASS: a new Replay -/
section InitR
variable {l : Launch} {x : CX} {h h' : PH} {rp : Nat}
theorem k_initReplay (O : XN x) (hk : (hK h rp).1 = 5) (hn : hN h = rp + 1) : CV l x mX5_init 3 71 1654 [.ref rp] h (fun h' => hN h' = rp + 72 ∧ (∀ b, b < rp → Ac b h h') ∧ PS h' rp ∧ BS h' (rp + 1) ∧ BZ h' (rp + 1) ∧ BS h' (rp + 33) ∧ ∀ i, hI h' (rp + 65) i = 0) := by
  refine Cm.of (by decide) (Nat.le_of_ble_eq_true rfl) (vX5_init_0 ⟨by omega, by omega, ?_⟩)
  rintro h3 e3
  have A3 : ∀ b, b ≠ rp + 1 → Ac b h h3 := fun b hb => by rw [e3]; exact nw_Ac (by omega)
  refine ⟨31, 343, _, by omega, by omega, k_initBank O (o := hN h) (by rw [e3, nw_K]) (by rw [e3, hN_nw]), ?_⟩
  rw [hn]
  rintro h8 ⟨n8, a8, s8, z8⟩
  have A8 : ∀ b, b < rp + 1 → Ac b h h8 := fun b hb => (A3 b (by omega)).trans (a8 b hb)
  have K8 : (hK h8 rp).1 = 5 := by rw [(A8 rp (by omega)).1]; exact hk
  clear A3 a8 e3 h3
  refine ⟨K8, by omega, by omega, ?_⟩
  rintro h12 e12
  obtain ⟨n12, k12, r12, o12, kd12, i12, A12, _, _⟩ := st_new (d := rp) (by omega) e12
  rw [n8] at n12 k12 A12
  refine ⟨31, 343, _, by omega, by omega, k_initBank O (o := hN (sR h8 rp 0 (some (rp + 1)))) ?_ ?_, ?_⟩
  · rw [hN_sR, n8, k12]
  · rw [hN_sR, n8, n12]
  rw [hN_sR, n8]
  rintro h17 ⟨n17, a17, s17, z17⟩
  have D17 := a17 rp (by omega)
  have K17 : (hK h17 rp).1 = 5 := by rw [D17.1, kd12]; exact K8
  refine ⟨K17, by omega, by omega, ?_⟩
  rintro h21 e21
  obtain ⟨n21, k21, r21, o21, kd21, _, A21, z21, _⟩ := st_new (d := rp) (by omega) e21
  rw [n17] at n21 k21 A21 z21
  have K21 : (hK h21 rp).1 = 5 := by rw [kd21]; exact K17
  refine ⟨K21, by omega, by omega, ?_⟩
  rw [hN_sR, n17]
  rintro h25 e25
  obtain ⟨n25, k25, r25, o25, kd25, _, A25, _, _⟩ := st_new (d := rp) (by omega) e25
  rw [n21] at n25 k25 A25
  have K25 : (hK h25 rp).1 = 5 := by rw [kd25]; exact K21
  refine ⟨K25, by omega, by omega, ?_⟩
  rw [hN_sR, n21]
  rintro h29 e29
  obtain ⟨n29, k29, r29, o29, kd29, _, A29, _, _⟩ := st_new (d := rp) (by omega) e29
  rw [n25] at n29 k29 A29
  have K29 : (hK h29 rp).1 = 5 := by rw [kd29]; exact K25
  refine ⟨K29, by omega, by omega, ?_⟩
  rw [hN_sR, n25]
  rintro h33 e33
  obtain ⟨n33, k33, r33, o33, kd33, _, A33, _, _⟩ := st_new (d := rp) (by omega) e33
  rw [n29] at n33 k33 A33
  have K33 : (hK h33 rp).1 = 5 := by rw [kd33]; exact K29
  refine ⟨K33, by omega, by omega, ?_⟩
  rw [hN_sR, n29]
  rintro h37 e37
  obtain ⟨n37, k37, r37, o37, kd37, _, A37, _, _⟩ := st_new (d := rp) (by omega) e37
  rw [n33] at n37 k37 A37
  have K37 : (hK h37 rp).1 = 5 := by rw [kd37]; exact K33
  refine ⟨K37, by omega, by omega, ?_⟩
  rw [hN_sR, n33]
  rintro h41 e41
  obtain ⟨n41, k41, r41, o41, kd41, _, A41, _, _⟩ := st_new (d := rp) (by omega) e41
  rw [n37] at n41 k41 A41
  have K41 : (hK h41 rp).1 = 5 := by rw [kd41]; exact K37
  refine ⟨K41, by omega, by omega, ?_⟩
  rw [hN_sR, n37]
  rintro h45 e45
  obtain ⟨n45, k45, r45, o45, kd45, _, A45, _, _⟩ := st_new (d := rp) (by omega) e45
  rw [n41] at n45 k45 A45
  have K45 : (hK h45 rp).1 = 5 := by rw [kd45]; exact K41
  rw [hN_sR, n41]
  clear e12 e21 e25 e29 e33 e37 e41 e45
  have up : ∀ b, b < rp + 65 → b ≠ rp → Ac b h17 h45 := fun b h1 h2 => ((((((A21 b h2 (by omega)).trans (A25 b h2 (by omega))).trans (A29 b h2 (by omega))).trans (A33 b h2 (by omega))).trans (A37 b h2 (by omega))).trans (A41 b h2 (by omega))).trans (A45 b h2 (by omega))
  have up8 : ∀ b, b < rp + 33 → b ≠ rp → Ac b h8 h45 := fun b h1 h2 => ((A12 b h2 (by omega)).trans (a17 b (by omega))).trans (up b (by omega) h2)
  refine ⟨K45, rfl, by show hN h45 = rp + 72; omega, fun b hb => ((A8 b (by omega)).trans (up8 b (by omega) (by omega))).trans (sR_Ac (by omega)), ⟨K45, ?_, ?_, ?_, ?_, ?_, ?_, ?_, ?_, ?_, ?_, ?_, ?_, ?_, ?_, ?_, ?_⟩, s8.ac fun b h1 h2 => (up8 b (by omega) (by omega)).trans (sR_Ac (by omega)), z8.ac fun k => (up8 (rp + 1) (by omega) (by omega)).hI k, s17.ac fun b h1 h2 => (up b (by omega) (by omega)).trans (sR_Ac (by omega)), fun i => ?_⟩
  · rw [sR_ne _ _ _ (by decide), o45 0 (by decide), o41 0 (by decide), o37 0 (by decide), o33 0 (by decide), o29 0 (by decide), o25 0 (by decide), o21 0 (by decide), D17.hR, r12]
  · rw [sR_ne _ _ _ (by decide), o45 1 (by decide), o41 1 (by decide), o37 1 (by decide), o33 1 (by decide), o29 1 (by decide), o25 1 (by decide), r21]
  · rw [sR_ne _ _ _ (by decide), o45 2 (by decide), o41 2 (by decide), o37 2 (by decide), o33 2 (by decide), o29 2 (by decide), r25]
  · show hK h45 (rp + 65) = _
    rw [(A45 (rp + 65) (by omega) (by omega)).1, (A41 (rp + 65) (by omega) (by omega)).1, (A37 (rp + 65) (by omega) (by omega)).1, (A33 (rp + 65) (by omega) (by omega)).1, (A29 (rp + 65) (by omega) (by omega)).1, (A25 (rp + 65) (by omega) (by omega)).1]; exact k21
  · rw [sR_ne _ _ _ (by decide), o45 3 (by decide), o41 3 (by decide), o37 3 (by decide), o33 3 (by decide), r29]
  · show hK h45 (rp + 66) = _
    rw [(A45 (rp + 66) (by omega) (by omega)).1, (A41 (rp + 66) (by omega) (by omega)).1, (A37 (rp + 66) (by omega) (by omega)).1, (A33 (rp + 66) (by omega) (by omega)).1, (A29 (rp + 66) (by omega) (by omega)).1]; exact k25
  · rw [sR_ne _ _ _ (by decide), o45 4 (by decide), o41 4 (by decide), o37 4 (by decide), r33]
  · show hK h45 (rp + 67) = _
    rw [(A45 (rp + 67) (by omega) (by omega)).1, (A41 (rp + 67) (by omega) (by omega)).1, (A37 (rp + 67) (by omega) (by omega)).1, (A33 (rp + 67) (by omega) (by omega)).1]; exact k29
  · rw [sR_ne _ _ _ (by decide), o45 5 (by decide), o41 5 (by decide), r37]
  · show hK h45 (rp + 68) = _
    rw [(A45 (rp + 68) (by omega) (by omega)).1, (A41 (rp + 68) (by omega) (by omega)).1, (A37 (rp + 68) (by omega) (by omega)).1]; exact k33
  · rw [sR_ne _ _ _ (by decide), o45 6 (by decide), r41]
  · show hK h45 (rp + 69) = _
    rw [(A45 (rp + 69) (by omega) (by omega)).1, (A41 (rp + 69) (by omega) (by omega)).1]; exact k37
  · rw [sR_ne _ _ _ (by decide), r45]
  · show hK h45 (rp + 70) = _
    rw [(A45 (rp + 70) (by omega) (by omega)).1]; exact k41
  · exact sR_at _ _ _ _
  · show hK h45 (rp + 71) = _
    exact k45
  · show hI h45 (rp + 65) i = 0
    rw [(A45 (rp + 65) (by omega) (by omega)).hI, (A41 (rp + 65) (by omega) (by omega)).hI, (A37 (rp + 65) (by omega) (by omega)).hI, (A33 (rp + 65) (by omega) (by omega)).hI, (A29 (rp + 65) (by omega) (by omega)).hI, (A25 (rp + 65) (by omega) (by omega)).hI]; exact z21 i
end InitR
