/-! THE CLASS: a new Acts, a new Desk, a new Replay -/
section Inits
variable {l : Launch} {x : CX} {h h' : PH} {a d rp : Nat}
theorem st_new {j : Nat} {v : Option Nat} {k : Nat × Nat} (hd : d < hN h) (e : h' = nw (sR h d j v) k) : hN h' = hN h + 1 ∧ hK h' (hN h) = k ∧ hR h' d j = v ∧ (∀ i, i ≠ j → hR h' d i = hR h d i) ∧ hK h' d = hK h d ∧ (∀ i, hI h' d i = hI h d i) ∧ (∀ b, b ≠ d → b ≠ hN h → Ac b h h') ∧ (∀ i, hI h' (hN h) i = 0) ∧ ∀ i, hR h' (hN h) i = none := by
  subst e
  have ne : d ≠ hN (sR h d j v) := fun z => by rw [show hN (sR h d j v) = hN h from rfl] at z; omega
  have A : Ac d (sR h d j v) (nw (sR h d j v) k) := nw_Ac ne
  refine ⟨rfl, nw_K _ _, (A.hR j).trans (sR_at _ _ _ _), fun i hi => (A.hR i).trans (sR_ne _ _ _ hi), A.1, fun i => A.hI i, fun b h1 h2 => (sR_Ac h1).trans (nw_Ac h2), fun i => ?_, fun i => ?_⟩
  · exact if_pos rfl
  · exact if_pos rfl
theorem k_initActs (O : XN x) (hk : (hK h a).1 = 0) (hn : hN h = a + 1) : CV l x mX0_init 1 1 40 [.ref a] h (fun h' => hN h' = a + 2 ∧ (∀ b, b < a → Ac b h h') ∧ AS h' a ∧ (∀ i, hR h' (a + 1) i = none) ∧ hI h' a 1 = 0 ∧ hI h' a 2 = 0) := by
  refine Cm.of (by decide) (Nat.le_of_ble_eq_true rfl) (vX0_init_0 ⟨by omega, by omega, O.ao_Bank, ?_⟩)
  rintro h3 e3
  have A : ∀ b, b ≠ a + 1 → Ac b h h3 := fun b hb => by rw [e3]; exact nw_Ac (by omega)
  have k3 : hK h3 (a + 1) = (107, 40) := by rw [e3, ← hn]; exact nw_K _ _
  have r3 : ∀ i, hR h3 (a + 1) i = none := fun i => by rw [e3, hR_nw, if_pos hn.symm]
  have n3 : hN h3 = a + 2 := by rw [e3, hN_nw]; omega
  have ka : (hK h3 a).1 = 0 := by rw [(A a (by omega)).1]; exact hk
  clear e3
  rw [hn]
  refine ⟨ka, rfl, n3, fun b hb => (((A b (by omega)).trans (sR_Ac (by omega))).trans (sI_Ac (by omega))).trans (sI_Ac (by omega)), ⟨ka, sR_at _ _ _ _, k3, by show a + 1 < hN h3; omega⟩, fun i => (sR_na _ _ _ _ (by omega)).trans (r3 i), ?_, ?_⟩
  · rw [hI_sI, if_neg fun z => absurd z.1 (by decide), hI_sI, if_pos ⟨rfl, rfl⟩]
  · rw [hI_sI, if_pos ⟨rfl, rfl⟩]
theorem k_initDesk (O : XN x) (hk : (hK h d).1 = 3) (hn : hN h = d + 1) : CV l x mX3_init 3 37 421 [.ref d] h (fun h' => hN h' = d + 38 ∧ (∀ b, b < d → Ac b h h') ∧ DS h' d ∧ BZ h' (d + 1) ∧ (∀ i, hR h' (d + 34) i = none) ∧ hI h' (d + 33) 1 = 0 ∧ hI h' (d + 33) 2 = 0 ∧ hI h' d 4 = 0 ∧ ∀ i, hI h' (d + 37) i = 0) := by
  refine Cm.of (by decide) (Nat.le_of_ble_eq_true rfl) (vX3_init_0 ⟨by omega, by omega, ?_⟩)
  rintro h3 e3
  have A3 : ∀ b, b ≠ d + 1 → Ac b h h3 := fun b hb => by rw [e3]; exact nw_Ac (by omega)
  refine ⟨31, 343, _, by omega, by omega, k_initBank O (o := hN h) (by rw [e3, nw_K]) (by rw [e3, hN_nw]), ?_⟩
  rw [hn]
  rintro h8 ⟨n8, a8, s8, z8⟩
  have A8 : ∀ b, b < d + 1 → Ac b h h8 := fun b hb => (A3 b (by omega)).trans (a8 b hb)
  have K8 : (hK h8 d).1 = 3 := by rw [(A8 d (by omega)).1]; exact hk
  clear A3 a8 e3 h3
  refine ⟨K8, by omega, by omega, ?_⟩
  rintro h12 e12
  obtain ⟨n12, k12, r12, o12, kd12, i12, A12, _, _⟩ := st_new (d := d) (by omega) e12
  rw [n8] at n12 k12 A12
  refine ⟨O.n_RX3_20, 1, 40, _, by omega, by omega, k_initActs O (a := hN (sR h8 d 0 (some (d + 1)))) ?_ ?_, ?_⟩
  · rw [hN_sR, n8, k12]
  · rw [hN_sR, n8, n12]
  rw [hN_sR, n8]
  rintro h17 ⟨n17, a17, s17, r17, f17, g17⟩
  have D17 := a17 d (by omega)
  have K17 : (hK h17 d).1 = 3 := by rw [D17.1, kd12]; exact K8
  refine ⟨K17, by omega, by omega, ?_⟩
  rintro h21 e21
  obtain ⟨n21, k21, r21, o21, kd21, i21, A21, _, _⟩ := st_new (d := d) (by omega) e21
  rw [n17] at n21 k21 A21
  have K21 : (hK h21 d).1 = 3 := by rw [kd21]; exact K17
  refine ⟨K21, by omega, by omega, ?_⟩
  rw [hN_sR, n17]
  rintro h25 e25
  obtain ⟨n25, k25, r25, o25, kd25, i25, A25, _, _⟩ := st_new (d := d) (by omega) e25
  rw [n21] at n25 k25 A25
  have K25 : (hK h25 d).1 = 3 := by rw [kd25]; exact K21
  refine ⟨K25, by omega, by omega, ?_⟩
  rw [hN_sR, n21]
  rintro h29 e29
  have m26 : hN (sI (sR h25 d 3 (some (d + 33 + 2 + 1))) d 4 0) = d + 37 := n25
  have n29 : hN h29 = d + 38 := by rw [e29, hN_nw, m26]
  have k29 : hK h29 (d + 37) = (100, 3) := by rw [e29, ← m26]; exact nw_K _ _
  have z29 : ∀ i, hI h29 (d + 37) i = 0 := fun i => by rw [e29, hI_nw, if_pos m26.symm]
  have A29 : ∀ b, b ≠ d → b ≠ d + 37 → Ac b h25 h29 := fun b h1 h2 => by
    rw [e29]
    exact ((sR_Ac h1).trans (sI_Ac h1)).trans (nw_Ac (by rw [m26]; exact h2))
  have D29 : Ac d (sI (sR h25 d 3 (some (d + 33 + 2 + 1))) d 4 0) h29 := by rw [e29]; exact nw_Ac (by rw [m26]; omega)
  have K29 : (hK h29 d).1 = 3 := by rw [D29.1]; exact K25
  have R3 : hR h29 d 3 = some (d + 36) := (D29.hR 3).trans (sR_at h25 d 3 _)
  have R29 : ∀ i, i ≠ 3 → hR h29 d i = hR h25 d i := fun i hi => (D29.hR i).trans (sR_ne h25 d _ hi)
  have I4 : hI h29 d 4 = 0 := (D29.hI 4).trans (if_pos ⟨rfl, rfl⟩)
  rw [m26]
  clear e12 e21 e25 e29 D29
  have q12 : hR h29 d 0 = some (d + 1) := by rw [R29 0 (by decide), o25 0 (by decide), o21 0 (by decide), D17.hR, r12]
  have q21 : hR h29 d 1 = some (d + 33) := by rw [R29 1 (by decide), o25 1 (by decide), r21]
  have q25 : hR h29 d 2 = some (d + 35) := by rw [R29 2 (by decide), r25]
  have up29 : ∀ b, b < d + 35 → b ≠ d → Ac b h17 h29 := fun b h1 h2 => ((A21 b h2 (by omega)).trans (A25 b h2 (by omega))).trans (A29 b h2 (by omega))
  have up8 : ∀ b, b < d + 33 → b ≠ d → Ac b h8 h29 := fun b h1 h2 => ((A12 b h2 (by omega)).trans (a17 b (by omega))).trans (up29 b (by omega) h2)
  refine ⟨K29, rfl, n29, fun b hb => ((A8 b (by omega)).trans (up8 b (by omega) (by omega))).trans (sR_Ac (by omega)), ⟨K29, ?_, ?_, ?_, ?_, ?_, ?_, ?_, ?_, ⟨?_, ?_, ?_, ?_⟩, ?_, by show d + 38 ≤ hN h29; omega⟩, ?_, fun i => ?_, ?_, ?_, I4, z29⟩
  · rw [sR_ne _ _ _ (by decide)]; exact q12
  · rw [sR_ne _ _ _ (by decide)]; exact q21
  · rw [sR_ne _ _ _ (by decide)]; exact q25
  · show hK h29 (d + 35) = _
    rw [(A29 (d + 35) (by omega) (by omega)).1, (A25 (d + 35) (by omega) (by omega)).1]; exact k21
  · rw [sR_ne _ _ _ (by decide)]; exact R3
  · show hK h29 (d + 36) = _
    rw [(A29 (d + 36) (by omega) (by omega)).1]; exact k25
  · exact sR_at _ _ _ _
  · exact k29
  · show (hK h29 (d + 33)).1 = _
    rw [(up29 (d + 33) (by omega) (by omega)).1]; exact s17.1
  · rw [sR_na _ _ _ _ (by omega), (up29 (d + 33) (by omega) (by omega)).hR]; exact s17.2.1
  · show hK h29 (d + 33 + 1) = _
    rw [(up29 (d + 33 + 1) (by omega) (by omega)).1]; exact s17.2.2.1
  · show d + 33 + 1 < hN h29
    omega
  · exact s8.ac fun b h1 h2 => (up8 b (by omega) (by omega)).trans (sR_Ac (by omega))
  · exact z8.ac fun k => (up8 (d + 1) (by omega) (by omega)).hI k
  · rw [sR_na _ _ _ _ (by omega), (up29 (d + 34) (by omega) (by omega)).hR]; exact r17 i
  · show hI h29 (d + 33) 1 = 0
    rw [(up29 (d + 33) (by omega) (by omega)).hI]; exact f17
  · show hI h29 (d + 33) 2 = 0
    rw [(up29 (d + 33) (by omega) (by omega)).hI]; exact g17
end Inits
