/-! THE CLASS: a new LiftBank. a LiftBank, a + 1 Reader, a + 2 its tape, a + 3 its Bank, a + 35 spare, a + 67 Replay, a + 139 Desk -/
section InitL
variable {l : Launch} {x : CX} {h h' : PH} {a : Nat}
def LBS (h : PH) (a : Nat) : Prop := (hK h a).1 = 7 ∧ hR h a 0 = some (a + 1) ∧ (hK h (a + 1)).1 = 4 ∧ hR h (a + 1) 0 = some (a + 2) ∧ hK h (a + 2) = (101, 900) ∧ hR h (a + 1) 2 = some (a + 3) ∧ BS h (a + 3) ∧ hR h a 2 = some (a + 35) ∧ BS h (a + 35) ∧ hR h a 3 = some (a + 67) ∧ hR h a 4 = some (a + 139)
theorem PS.acs {rp : Nat} (q : PS h rp) (A : ∀ b, rp ≤ b → b < rp + 72 → Ac b h h') : PS h' rp := by
  have A0 := A rp (by omega) (by omega)
  obtain ⟨q0, q1, q2, q3, q4, q5, q6, q7, q8, q9, q10, q11, q12, q13, q14, q15, q16⟩ := q
  exact ⟨by rw [A0.1]; exact q0, by rw [A0.hR]; exact q1, by rw [A0.hR]; exact q2, by rw [A0.hR]; exact q3, by rw [(A (rp + 65) (by omega) (by omega)).1]; exact q4, by rw [A0.hR]; exact q5, by rw [(A (rp + 66) (by omega) (by omega)).1]; exact q6, by rw [A0.hR]; exact q7, by rw [(A (rp + 67) (by omega) (by omega)).1]; exact q8, by rw [A0.hR]; exact q9, by rw [(A (rp + 68) (by omega) (by omega)).1]; exact q10, by rw [A0.hR]; exact q11, by rw [(A (rp + 69) (by omega) (by omega)).1]; exact q12, by rw [A0.hR]; exact q13, by rw [(A (rp + 70) (by omega) (by omega)).1]; exact q14, by rw [A0.hR]; exact q15, by rw [(A (rp + 71) (by omega) (by omega)).1]; exact q16⟩
theorem k_initReader (O : XN x) {r : Nat} (hk : (hK h r).1 = 4) (hn : hN h = r + 1) : CV l x mX4_init 3 33 1259 [.ref r] h (fun h' => hN h' = r + 34 ∧ (∀ b, b < r → Ac b h h') ∧ (hK h' r).1 = 4 ∧ hR h' r 0 = some (r + 1) ∧ hK h' (r + 1) = (101, 900) ∧ hR h' r 2 = some (r + 2) ∧ BS h' (r + 2) ∧ hI h' r 1 = 0) := by
  refine Cm.of (by decide) (Nat.le_of_ble_eq_true rfl) (vX4_init_0 ⟨by omega, by omega, ?_⟩)
  rintro h3 e3
  have A3 : ∀ b, b ≠ r + 1 → Ac b h h3 := fun b hb => by rw [e3]; exact nw_Ac (by omega)
  have k3 : hK h3 (r + 1) = (101, 900) := by rw [e3, ← hn]; exact nw_K _ _
  have n3 : hN h3 = r + 2 := by rw [e3, hN_nw]; omega
  have K3 : (hK h3 r).1 = 4 := by rw [(A3 r (by omega)).1]; exact hk
  clear e3
  rw [hn]
  refine ⟨K3, by omega, by omega, ?_⟩
  rintro h7 e7
  have m7 : hN (sI (sR h3 r 0 (some (r + 1))) r 1 0) = r + 2 := n3
  rw [m7]
  have n7 : hN h7 = r + 3 := by rw [e7, hN_nw, m7]
  have k7 : hK h7 (r + 2) = (1, 0) := by rw [e7, ← m7]; exact nw_K _ _
  have A7 : ∀ b, b ≠ r → b ≠ r + 2 → Ac b h3 h7 := fun b h1 h2 => by
    rw [e7]
    exact ((sR_Ac h1).trans (sI_Ac h1)).trans (nw_Ac (by rw [m7]; exact h2))
  have D7 : Ac r (sI (sR h3 r 0 (some (r + 1))) r 1 0) h7 := by rw [e7]; exact nw_Ac (by rw [m7]; omega)
  have R0 : hR h7 r 0 = some (r + 1) := (D7.hR 0).trans (sR_at h3 r 0 _)
  have I1 : hI h7 r 1 = 0 := by rw [D7.hI, hI_sI, if_pos ⟨rfl, rfl⟩]
  have K7 : (hK h7 r).1 = 4 := by rw [D7.1]; exact K3
  clear D7 e7
  refine ⟨31, 343, _, by omega, by omega, k_initBank O (o := r + 2) (by rw [k7]) n7, ?_⟩
  rintro h12 ⟨n12, a12, s12, z12⟩
  have D12 := a12 r (by omega)
  have K12 : (hK h12 r).1 = 4 := by rw [D12.1]; exact K7
  refine ⟨K12, rfl, ?_⟩
  have fin : ∀ b, b ≠ r → Ac b h12 (sI (sI (sI (sI (sI (sI (sI (sI (sI (sR h12 r 2 (some (r + 2))) r 3 0) r 4 0) r 5 0) r 6 0) r 7 0) r 8 0) r 9 0) r 10 0) r 11 (-1)) := fun b hb => (((((((((sR_Ac hb).trans (sI_Ac hb)).trans (sI_Ac hb)).trans (sI_Ac hb)).trans (sI_Ac hb)).trans (sI_Ac hb)).trans (sI_Ac hb)).trans (sI_Ac hb)).trans (sI_Ac hb)).trans (sI_Ac hb)
  have fN : hN (sI (sI (sI (sI (sI (sI (sI (sI (sI (sR h12 r 2 (some (r + 2))) r 3 0) r 4 0) r 5 0) r 6 0) r 7 0) r 8 0) r 9 0) r 10 0) r 11 (-1)) = hN h12 := rfl
  have fK : hK (sI (sI (sI (sI (sI (sI (sI (sI (sI (sR h12 r 2 (some (r + 2))) r 3 0) r 4 0) r 5 0) r 6 0) r 7 0) r 8 0) r 9 0) r 10 0) r 11 (-1)) r = hK h12 r := rfl
  have f2 : hR (sI (sI (sI (sI (sI (sI (sI (sI (sI (sR h12 r 2 (some (r + 2))) r 3 0) r 4 0) r 5 0) r 6 0) r 7 0) r 8 0) r 9 0) r 10 0) r 11 (-1)) r 2 = some (r + 2) := sR_at h12 r 2 _
  have f0 : hR (sI (sI (sI (sI (sI (sI (sI (sI (sI (sR h12 r 2 (some (r + 2))) r 3 0) r 4 0) r 5 0) r 6 0) r 7 0) r 8 0) r 9 0) r 10 0) r 11 (-1)) r 0 = hR h12 r 0 := sR_ne h12 r (some (r + 2)) (by decide)
  have fI : hI (sI (sI (sI (sI (sI (sI (sI (sI (sI (sR h12 r 2 (some (r + 2))) r 3 0) r 4 0) r 5 0) r 6 0) r 7 0) r 8 0) r 9 0) r 10 0) r 11 (-1)) r 1 = hI h12 r 1 := by
    iterate 9 rw [hI_sI, if_neg (fun z => absurd z.1 (by decide))]
    rfl
  generalize sI (sI (sI (sI (sI (sI (sI (sI (sI (sR h12 r 2 (some (r + 2))) r 3 0) r 4 0) r 5 0) r 6 0) r 7 0) r 8 0) r 9 0) r 10 0) r 11 (-1) = gg at *
  refine ⟨by omega, fun b hb => (((A3 b (by omega)).trans (A7 b (by omega) (by omega))).trans (a12 b (by omega))).trans (fin b (by omega)), by rw [fK]; exact K12, by rw [f0, D12.hR]; exact R0, ?_, f2, s12.ac fun b h1 h2 => fin b (by omega), by rw [fI, D12.hI]; exact I1⟩
  rw [(fin (r + 1) (by omega)).1, (a12 (r + 1) (by omega)).1, (A7 (r + 1) (by omega) (by omega)).1]
  exact k3
theorem k_initLift (O : XN x) (hk : (hK h a).1 = 7) (hn : hN h = a + 1) : CV l x mX7_init 4 176 3720 [.ref a] h (fun h' => hN h' = a + 177 ∧ (∀ b, b < a → Ac b h h') ∧ LBS h' a ∧ PS h' (a + 67) ∧ BS h' (a + 68) ∧ BZ h' (a + 68) ∧ BS h' (a + 100) ∧ (∀ i, hI h' (a + 132) i = 0) ∧ DS h' (a + 139) ∧ BZ h' (a + 140) ∧ (∀ i, hR h' (a + 173) i = none) ∧ hI h' (a + 172) 1 = 0 ∧ hI h' (a + 172) 2 = 0 ∧ hI h' (a + 139) 4 = 0 ∧ (∀ i, hI h' (a + 176) i = 0) ∧ hI h' (a + 1) 1 = 0 ∧ hI h' a 1 = -1 ∧ hR h' a 5 = none ∧ hI h' a 6 = 0) := by
  refine Cm.of (by decide) (Nat.le_of_ble_eq_true rfl) (vX7_init_0 ⟨by omega, by omega, ?_⟩)
  rintro h3 e3
  have A3 : ∀ b, b ≠ a + 1 → Ac b h h3 := fun b hb => by rw [e3]; exact nw_Ac (by omega)
  have k3 : hK h3 (a + 1) = (4, 0) := by rw [e3, ← hn]; exact nw_K _ _
  have n3 : hN h3 = a + 1 + 1 := by rw [e3, hN_nw]; omega
  clear e3
  rw [hn]
  refine ⟨O.n_RX7_9, 33, 1259, _, by omega, by omega, k_initReader O (r := a + 1) (by rw [k3]) n3, ?_⟩
  rintro h8 ⟨n8, a8, k8, r8, t8, s8, b8, i8⟩
  have D8 : Ac a h h8 := (A3 a (by omega)).trans (a8 a (by omega))
  have K8 : (hK h8 a).1 = 7 := by rw [D8.1]; exact hk
  refine ⟨K8, by omega, by omega, ?_⟩
  rintro h12 e12
  have m12 : hN (sI (sR h8 a 0 (some (a + 1))) a 1 (-1)) = a + 35 := by
    show hN h8 = a + 35
    omega
  rw [m12]
  have n12 : hN h12 = a + 36 := by rw [e12, hN_nw, m12]
  have k12 : hK h12 (a + 35) = (1, 0) := by rw [e12, ← m12]; exact nw_K _ _
  have A12 : ∀ b, b ≠ a → b ≠ a + 35 → Ac b h8 h12 := fun b h1 h2 => by
    rw [e12]
    exact ((sR_Ac h1).trans (sI_Ac h1)).trans (nw_Ac (by rw [m12]; exact h2))
  have D12 : Ac a (sI (sR h8 a 0 (some (a + 1))) a 1 (-1)) h12 := by rw [e12]; exact nw_Ac (by rw [m12]; omega)
  have R0 : hR h12 a 0 = some (a + 1) := (D12.hR 0).trans (sR_at h8 a 0 _)
  have I1 : hI h12 a 1 = -1 := by rw [D12.hI, hI_sI, if_pos ⟨rfl, rfl⟩]
  have K12 : (hK h12 a).1 = 7 := by rw [D12.1]; exact K8
  clear D12 e12
  refine ⟨31, 343, _, by omega, by omega, k_initBank O (o := a + 35) (by rw [k12]) n12, ?_⟩
  rintro h17 ⟨n17, a17, s17, z17⟩
  have D17 := a17 a (by omega)
  have K17 : (hK h17 a).1 = 7 := by rw [D17.1]; exact K12
  refine ⟨K17, by omega, by omega, ?_⟩
  rintro h21 e21
  obtain ⟨n21, k21, r21, o21, kd21, i21, A21, _, _⟩ := st_new (d := a) (by omega) e21
  rw [n17] at n21 k21 A21
  rw [hN_sR, n17]
  have K21 : (hK h21 a).1 = 7 := by rw [kd21]; exact K17
  refine ⟨O.n_RX7_29, 71, 1654, _, by omega, by omega, k_initReplay O (rp := a + 35 + 32) (by rw [k21]) (by rw [n21]), ?_⟩
  rintro h26 ⟨n26, a26, p26, b26, z26, c26, w26⟩
  have D26 := a26 a (by omega)
  have K26 : (hK h26 a).1 = 7 := by rw [D26.1]; exact K21
  refine ⟨K26, by omega, by omega, ?_⟩
  rintro h30 e30
  obtain ⟨n30, k30, r30, o30, kd30, i30, A30, _, _⟩ := st_new (d := a) (by omega) e30
  rw [n26] at n30 k30 A30
  rw [hN_sR, n26]
  have K30 : (hK h30 a).1 = 7 := by rw [kd30]; exact K26
  refine ⟨O.n_RX7_36, 37, 421, _, by omega, by omega, k_initDesk O (d := a + 35 + 32 + 72) (by rw [k30]) (by rw [n30]), ?_⟩
  rintro h35 ⟨n35, a35, d35, y35, r35, f35, g35, v35, w35⟩
  have D35 := a35 a (by omega)
  have K35 : (hK h35 a).1 = 7 := by rw [D35.1]; exact K30
  clear e21 e30
  rw [show a + 35 + 32 = a + 67 by omega] at *
  rw [show a + 67 + 72 = a + 139 by omega] at *
  have u35 : ∀ b, b < a + 139 → b ≠ a → Ac b h26 h35 := fun b h1 h2 => (A30 b h2 (by omega)).trans (a35 b (by omega))
  have u26 : ∀ b, b < a + 67 → b ≠ a → Ac b h17 h35 := fun b h1 h2 => ((A21 b h2 (by omega)).trans (a26 b (by omega))).trans (u35 b (by omega) h2)
  have u12 : ∀ b, b < a + 35 → b ≠ a → Ac b h8 h35 := fun b h1 h2 => ((A12 b h2 (by omega)).trans (a17 b (by omega))).trans (u26 b (by omega) h2)
  have R35 : ∀ k, k ≠ 3 → k ≠ 2 → hR h35 a k = hR h12 a k := fun k h3 h2 => by rw [D35.hR, o30 k h3, D26.hR, o21 k h2, D17.hR]
  have I35 : ∀ k, hI h35 a k = hI h12 a k := fun k => by rw [D35.hI, i30, D26.hI, i21, D17.hI]
  have q2 : hR h35 a 2 = some (a + 35) := by rw [D35.hR, o30 2 (by decide), D26.hR]; exact r21
  have q3 : hR h35 a 3 = some (a + 67) := by rw [D35.hR]; exact r30
  have q0 : hR h35 a 0 = some (a + 1) := by rw [R35 0 (by decide) (by decide)]; exact R0
  refine ⟨K35, rfl, ?_⟩
  have fin : ∀ b, b ≠ a → Ac b h35 (sI (sR (sR h35 a 4 (some (a + 139))) a 5 none) a 6 0) := fun b hb => ((sR_Ac hb).trans (sR_Ac hb)).trans (sI_Ac hb)
  have fN : hN (sI (sR (sR h35 a 4 (some (a + 139))) a 5 none) a 6 0) = hN h35 := rfl
  have fK : hK (sI (sR (sR h35 a 4 (some (a + 139))) a 5 none) a 6 0) a = hK h35 a := rfl
  have f4 : hR (sI (sR (sR h35 a 4 (some (a + 139))) a 5 none) a 6 0) a 4 = some (a + 139) := (sR_ne (sR h35 a 4 (some (a + 139))) a none (by decide)).trans (sR_at _ _ _ _)
  have f5 : hR (sI (sR (sR h35 a 4 (some (a + 139))) a 5 none) a 6 0) a 5 = none := sR_at (sR h35 a 4 (some (a + 139))) a 5 none
  have fR : ∀ k, k ≠ 4 → k ≠ 5 → hR (sI (sR (sR h35 a 4 (some (a + 139))) a 5 none) a 6 0) a k = hR h35 a k := fun k h6 h7 => (sR_ne (sR h35 a 4 (some (a + 139))) a none h7).trans (sR_ne _ _ _ h6)
  have f6 : hI (sI (sR (sR h35 a 4 (some (a + 139))) a 5 none) a 6 0) a 6 = 0 := by rw [hI_sI, if_pos ⟨rfl, rfl⟩]
  have fI : ∀ k, k ≠ 6 → hI (sI (sR (sR h35 a 4 (some (a + 139))) a 5 none) a 6 0) a k = hI h35 a k := fun k hk => by rw [hI_sI, if_neg fun z => hk z.1]; rfl
  generalize sI (sR (sR h35 a 4 (some (a + 139))) a 5 none) a 6 0 = gg at *
  have v26 : ∀ b, b < a + 139 → b ≠ a → Ac b h26 gg := fun b h1 h2 => (u35 b h1 h2).trans (fin b h2)
  have v8 : ∀ b, b < a + 35 → b ≠ a → Ac b h8 gg := fun b h1 h2 => (u12 b h1 h2).trans (fin b h2)
  refine ⟨by omega, fun b hb => ((A3 b (by omega)).trans (a8 b (by omega))).trans (v8 b (by omega) (by omega)), ⟨by rw [fK]; exact K35, by rw [fR 0 (by decide) (by decide)]; exact q0, ?_, ?_, ?_, ?_, ?_, by rw [fR 2 (by decide) (by decide)]; exact q2, ?_, by rw [fR 3 (by decide) (by decide)]; exact q3, f4⟩, ?_, ?_, ?_, ?_, fun i => ?_, ?_, ?_, fun i => ?_, ?_, ?_, ?_, fun i => ?_, ?_, ?_, f5, f6⟩
  · rw [(v8 (a + 1) (by omega) (by omega)).1]; exact k8
  · rw [(v8 (a + 1) (by omega) (by omega)).hR]; exact r8
  · rw [(v8 (a + 2) (by omega) (by omega)).1]; exact t8
  · rw [(v8 (a + 1) (by omega) (by omega)).hR]; exact s8
  · exact BS.ac (o := a + 3) b8 fun b h1 h2 => v8 b (by omega) (by omega)
  · exact s17.ac fun b h1 h2 => (u26 b (by omega) (by omega)).trans (fin b (by omega))
  · exact p26.acs fun b h1 h2 => v26 b (by omega) (by omega)
  · exact b26.ac fun b h1 h2 => v26 b (by omega) (by omega)
  · exact z26.ac fun k => (v26 (a + 68) (by omega) (by omega)).hI k
  · exact c26.ac fun b h1 h2 => v26 b (by omega) (by omega)
  · rw [(v26 (a + 132) (by omega) (by omega)).hI]; exact w26 i
  · exact d35.frs (S := fun b => b = a) ⟨by omega, fun b _ hs => fin b hs⟩ (fun b h1 h2 => by omega)
  · exact y35.ac fun k => (fin (a + 140) (by omega)).hI k
  · rw [(fin (a + 173) (by omega)).hR]; exact r35 i
  · rw [(fin (a + 172) (by omega)).hI]; exact f35
  · rw [(fin (a + 172) (by omega)).hI]; exact g35
  · rw [(fin (a + 139) (by omega)).hI]; exact v35
  · rw [(fin (a + 176) (by omega)).hI]; exact w35 i
  · rw [(v8 (a + 1) (by omega) (by omega)).hI]; exact i8
  · rw [fI 1 (by decide), I35]; exact I1
end InitL
