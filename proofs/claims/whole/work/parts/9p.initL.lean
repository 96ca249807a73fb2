/-! THE CLASS: a new LiftBank. a LiftBank, a + 1 tape, a + 2 spare, a + 34 Reader, a + 35 Replay, a + 107 Desk -/
section InitL
variable {l : Launch} {x : CX} {h h' : PH} {a : Nat}
def LBS (h : PH) (a : Nat) : Prop := (hK h a).1 = 7 ∧ hR h a 0 = some (a + 1) ∧ hK h (a + 1) = (101, 900) ∧ hR h a 3 = some (a + 2) ∧ BS h (a + 2) ∧ hR h a 4 = some (a + 34) ∧ (hK h (a + 34)).1 = 4 ∧ hR h (a + 34) 0 = some (a + 1) ∧ hR h (a + 34) 1 = some (a + 2) ∧ hR h a 5 = some (a + 35) ∧ hR h a 6 = some (a + 107)
theorem PS.acs {rp : Nat} (q : PS h rp) (A : ∀ b, rp ≤ b → b < rp + 72 → Ac b h h') : PS h' rp := by
  have A0 := A rp (by omega) (by omega)
  obtain ⟨q0, q1, q2, q3, q4, q5, q6, q7, q8, q9, q10, q11, q12, q13, q14, q15, q16⟩ := q
  exact ⟨by rw [A0.1]; exact q0, by rw [A0.hR]; exact q1, by rw [A0.hR]; exact q2, by rw [A0.hR]; exact q3, by rw [(A (rp + 65) (by omega) (by omega)).1]; exact q4, by rw [A0.hR]; exact q5, by rw [(A (rp + 66) (by omega) (by omega)).1]; exact q6, by rw [A0.hR]; exact q7, by rw [(A (rp + 67) (by omega) (by omega)).1]; exact q8, by rw [A0.hR]; exact q9, by rw [(A (rp + 68) (by omega) (by omega)).1]; exact q10, by rw [A0.hR]; exact q11, by rw [(A (rp + 69) (by omega) (by omega)).1]; exact q12, by rw [A0.hR]; exact q13, by rw [(A (rp + 70) (by omega) (by omega)).1]; exact q14, by rw [A0.hR]; exact q15, by rw [(A (rp + 71) (by omega) (by omega)).1]; exact q16⟩
theorem k_initReader {r b c : Nat} (hk : (hK h r).1 = 4) : CV l x mX4_init 1 0 0 [.ref r, .ref b, .ref c] h (fun h' => hN h' = hN h ∧ (∀ i, i ≠ r → Ac i h h') ∧ hK h' r = hK h r ∧ hR h' r 0 = some b ∧ hR h' r 1 = some c) := by
  refine Cm.of (by decide) (Nat.le_of_ble_eq_true rfl) (vX4_init_0 ⟨hk, rfl, rfl, fun i hi => ?_, rfl, ?_, sR_at _ _ _ _⟩)
  · exact ((((((((((sI_Ac hi).trans (sI_Ac hi)).trans (sI_Ac hi)).trans (sI_Ac hi)).trans (sI_Ac hi)).trans (sI_Ac hi)).trans (sI_Ac hi)).trans (sI_Ac hi)).trans (sI_Ac hi)).trans (sR_Ac hi)).trans (sR_Ac hi)
  · rw [sR_ne _ _ _ (by decide), sR_at]
theorem k_initLift (O : XN x) (hk : (hK h a).1 = 7) (hn : hN h = a + 1) : CV l x mX7_init 4 144 3360 [.ref a] h (fun h' => hN h' = a + 145 ∧ (∀ b, b < a → Ac b h h') ∧ LBS h' a ∧ PS h' (a + 35) ∧ BS h' (a + 36) ∧ BZ h' (a + 36) ∧ BS h' (a + 68) ∧ (∀ i, hI h' (a + 100) i = 0) ∧ DS h' (a + 107) ∧ BZ h' (a + 108) ∧ (∀ i, hR h' (a + 141) i = none) ∧ hI h' (a + 140) 1 = 0 ∧ hI h' (a + 140) 2 = 0 ∧ hI h' (a + 107) 4 = 0 ∧ (∀ i, hI h' (a + 144) i = 0) ∧ hI h' a 1 = 0 ∧ hI h' a 2 = -1 ∧ hR h' a 7 = none ∧ hI h' a 8 = 0) := by
  refine Cm.of (by decide) (Nat.le_of_ble_eq_true rfl) (vX7_init_0 ⟨by omega, by omega, ?_⟩)
  rintro h3 e3
  have A3 : ∀ b, b ≠ a + 1 → Ac b h h3 := fun b hb => by rw [e3]; exact nw_Ac (by omega)
  have k3 : hK h3 (a + 1) = (101, 900) := by rw [e3, ← hn]; exact nw_K _ _
  have n3 : hN h3 = a + 2 := by rw [e3, hN_nw]; omega
  have K3 : (hK h3 a).1 = 7 := by rw [(A3 a (by omega)).1]; exact hk
  clear e3
  rw [hn]
  refine ⟨K3, by omega, by omega, ?_⟩
  rintro h7 e7
  have m7 : hN (sI (sI (sR h3 a 0 (some (a + 1))) a 1 0) a 2 (-1)) = a + 2 := n3
  rw [m7]
  have n7 : hN h7 = a + 3 := by rw [e7, hN_nw, m7]
  have k7 : hK h7 (a + 2) = (1, 0) := by rw [e7, ← m7]; exact nw_K _ _
  have A7 : ∀ b, b ≠ a → b ≠ a + 2 → Ac b h3 h7 := fun b h1 h2 => by
    rw [e7]
    exact (((sR_Ac h1).trans (sI_Ac h1)).trans (sI_Ac h1)).trans (nw_Ac (by rw [m7]; exact h2))
  have D7 : Ac a (sI (sI (sR h3 a 0 (some (a + 1))) a 1 0) a 2 (-1)) h7 := by rw [e7]; exact nw_Ac (by rw [m7]; omega)
  have R0 : hR h7 a 0 = some (a + 1) := (D7.hR 0).trans (sR_at h3 a 0 _)
  have I1 : hI h7 a 1 = 0 := by rw [D7.hI, hI_sI, if_neg fun z => absurd z.1 (by decide), hI_sI, if_pos ⟨rfl, rfl⟩]
  have I2 : hI h7 a 2 = -1 := by rw [D7.hI, hI_sI, if_pos ⟨rfl, rfl⟩]
  have K7 : (hK h7 a).1 = 7 := by rw [D7.1]; exact K3
  clear D7 e7
  refine ⟨31, 343, _, by omega, by omega, k_initBank O (o := a + 2) (by rw [k7]) n7, ?_⟩
  rintro h12 ⟨n12, a12, s12, z12⟩
  have D12 := a12 a (by omega)
  refine ⟨by rw [D12.1]; exact K7, by omega, by omega, ?_⟩
  rintro h16 e16
  obtain ⟨n16, k16, r16, o16, kd16, i16, A16, _, _⟩ := st_new (d := a) (by omega) e16
  rw [n12] at n16 k16 A16
  rw [hN_sR, n12]
  have K16 : (hK h16 a).1 = 7 := by rw [kd16, D12.1]; exact K7
  have R16 : hR h16 a 0 = some (a + 1) := by rw [o16 0 (by decide), D12.hR]; exact R0
  refine ⟨K16, a + 1, R16, a + 2, r16, _, k_initReader (r := a + 2 + 32) (by rw [k16]), ?_⟩
  rintro h24 ⟨n24, A24, k24, r24, s24⟩
  have D24 := A24 a (by omega)
  have K24 : (hK h24 a).1 = 7 := by rw [D24.1]; exact K16
  refine ⟨K24, by omega, by omega, ?_⟩
  rintro h28 e28
  obtain ⟨n28, k28, r28, o28, kd28, i28, A28, _, _⟩ := st_new (d := a) (by omega) e28
  rw [n24, n16] at n28 k28 A28
  rw [hN_sR, n24, n16]
  have K28 : (hK h28 a).1 = 7 := by rw [kd28]; exact K24
  refine ⟨O.n_RX7_38, 71, 1654, _, by omega, by omega, k_initReplay O (rp := a + 2 + 32 + 1) (by rw [k28]) (by rw [n28]), ?_⟩
  rintro h33 ⟨n33, a33, p33, b33, z33, c33, w33⟩
  have D33 := a33 a (by omega)
  have K33 : (hK h33 a).1 = 7 := by rw [D33.1]; exact K28
  refine ⟨K33, by omega, by omega, ?_⟩
  rintro h37 e37
  obtain ⟨n37, k37, r37, o37, kd37, i37, A37, _, _⟩ := st_new (d := a) (by omega) e37
  rw [n33] at n37 k37 A37
  rw [hN_sR, n33]
  have K37 : (hK h37 a).1 = 7 := by rw [kd37]; exact K33
  refine ⟨O.n_RX7_45, 37, 421, _, by omega, by omega, k_initDesk O (d := a + 2 + 32 + 1 + 72) (by rw [k37]) (by rw [n37]), ?_⟩
  rintro h42 ⟨n42, a42, d42, y42, r42, f42, g42, v42, w42⟩
  have D42 := a42 a (by omega)
  have K42 : (hK h42 a).1 = 7 := by rw [D42.1]; exact K37
  clear e16 e28 e37
  rw [show a + 2 + 32 + 1 = a + 35 by omega] at *
  rw [show a + 35 + 72 = a + 107 by omega] at *
  have u42 : ∀ b, b < a + 107 → b ≠ a → Ac b h33 h42 := fun b h1 h2 => (A37 b h2 (by omega)).trans (a42 b (by omega))
  have u33 : ∀ b, b < a + 35 → b ≠ a → Ac b h24 h42 := fun b h1 h2 => ((A28 b h2 (by omega)).trans (a33 b (by omega))).trans (u42 b (by omega) h2)
  have u24 : ∀ b, b < a + 34 → b ≠ a → Ac b h12 h42 := fun b h1 h2 => ((A16 b h2 (by omega)).trans (A24 b (by omega))).trans (u33 b (by omega) h2)
  have u12 : ∀ b, b < a + 2 → b ≠ a → Ac b h3 h42 := fun b h1 h2 => ((A7 b h2 (by omega)).trans (a12 b (by omega))).trans (u24 b (by omega) h2)
  have R42 : ∀ k, k ≠ 5 → k ≠ 4 → k ≠ 3 → hR h42 a k = hR h7 a k := fun k h5 h4 h3 => by rw [D42.hR, o37 k h5, D33.hR, o28 k h4, D24.hR, o16 k h3, D12.hR]
  have I42 : ∀ k, hI h42 a k = hI h7 a k := fun k => by rw [D42.hI, i37, D33.hI, i28, D24.hI, i16, D12.hI]
  have q3 : hR h42 a 3 = some (a + 2) := by rw [D42.hR, o37 3 (by decide), D33.hR, o28 3 (by decide), D24.hR]; exact r16
  have q4 : hR h42 a 4 = some (a + 34) := by rw [D42.hR, o37 4 (by decide), D33.hR]; exact r28
  have q5 : hR h42 a 5 = some (a + 35) := by rw [D42.hR]; exact r37
  have q0 : hR h42 a 0 = some (a + 1) := by rw [R42 0 (by decide) (by decide) (by decide)]; exact R0
  refine ⟨K42, rfl, ?_⟩
  have fin : ∀ b, b ≠ a → Ac b h42 (sI (sR (sR h42 a 6 (some (a + 107))) a 7 none) a 8 0) := fun b hb => ((sR_Ac hb).trans (sR_Ac hb)).trans (sI_Ac hb)
  have fN : hN (sI (sR (sR h42 a 6 (some (a + 107))) a 7 none) a 8 0) = hN h42 := rfl
  have fK : hK (sI (sR (sR h42 a 6 (some (a + 107))) a 7 none) a 8 0) a = hK h42 a := rfl
  have f6 : hR (sI (sR (sR h42 a 6 (some (a + 107))) a 7 none) a 8 0) a 6 = some (a + 107) := (sR_ne (sR h42 a 6 (some (a + 107))) a none (by decide)).trans (sR_at _ _ _ _)
  have f7 : hR (sI (sR (sR h42 a 6 (some (a + 107))) a 7 none) a 8 0) a 7 = none := sR_at (sR h42 a 6 (some (a + 107))) a 7 none
  have fR : ∀ k, k ≠ 6 → k ≠ 7 → hR (sI (sR (sR h42 a 6 (some (a + 107))) a 7 none) a 8 0) a k = hR h42 a k := fun k h6 h7 => (sR_ne (sR h42 a 6 (some (a + 107))) a none h7).trans (sR_ne _ _ _ h6)
  have f8 : hI (sI (sR (sR h42 a 6 (some (a + 107))) a 7 none) a 8 0) a 8 = 0 := by rw [hI_sI, if_pos ⟨rfl, rfl⟩]
  have fI : ∀ k, k ≠ 8 → hI (sI (sR (sR h42 a 6 (some (a + 107))) a 7 none) a 8 0) a k = hI h42 a k := fun k hk => by rw [hI_sI, if_neg fun z => hk z.1]; rfl
  generalize sI (sR (sR h42 a 6 (some (a + 107))) a 7 none) a 8 0 = gg at *
  have v33 : ∀ b, b < a + 107 → b ≠ a → Ac b h33 gg := fun b h1 h2 => (u42 b h1 h2).trans (fin b h2)
  refine ⟨by omega, fun b hb => ((A3 b (by omega)).trans (u12 b (by omega) (by omega))).trans (fin b (by omega)), ⟨by rw [fK]; exact K42, by rw [fR 0 (by decide) (by decide)]; exact q0, ?_, by rw [fR 3 (by decide) (by decide)]; exact q3, ?_, by rw [fR 4 (by decide) (by decide)]; exact q4, ?_, ?_, ?_, by rw [fR 5 (by decide) (by decide)]; exact q5, f6⟩, ?_, ?_, ?_, ?_, fun i => ?_, ?_, ?_, fun i => ?_, ?_, ?_, ?_, fun i => ?_, ?_, ?_, f7, f8⟩
  · rw [(fin (a + 1) (by omega)).1, (u12 (a + 1) (by omega) (by omega)).1]; exact k3
  · exact s12.ac fun b h1 h2 => (u24 b (by omega) (by omega)).trans (fin b (by omega))
  · rw [(fin (a + 34) (by omega)).1, (u33 (a + 34) (by omega) (by omega)).1]
    show (hK h24 (a + 2 + 32)).1 = 4
    rw [k24, k16]
  · rw [(fin (a + 34) (by omega)).hR, (u33 (a + 34) (by omega) (by omega)).hR]; exact r24
  · rw [(fin (a + 34) (by omega)).hR, (u33 (a + 34) (by omega) (by omega)).hR]; exact s24
  · exact p33.acs fun b h1 h2 => v33 b (by omega) (by omega)
  · exact b33.ac fun b h1 h2 => v33 b (by omega) (by omega)
  · exact z33.ac fun k => (v33 (a + 36) (by omega) (by omega)).hI k
  · exact c33.ac fun b h1 h2 => v33 b (by omega) (by omega)
  · rw [(v33 (a + 100) (by omega) (by omega)).hI]; exact w33 i
  · exact d42.frs (S := fun b => b = a) ⟨by omega, fun b _ hs => fin b hs⟩ (fun b h1 h2 => by omega)
  · exact y42.ac fun k => (fin (a + 108) (by omega)).hI k
  · rw [(fin (a + 141) (by omega)).hR]; exact r42 i
  · rw [(fin (a + 140) (by omega)).hI]; exact f42
  · rw [(fin (a + 140) (by omega)).hI]; exact g42
  · rw [(fin (a + 107) (by omega)).hI]; exact v42
  · rw [(fin (a + 144) (by omega)).hI]; exact w42 i
  · rw [fI 1 (by decide), I42]; exact I1
  · rw [fI 2 (by decide), I42]; exact I2
end InitL
