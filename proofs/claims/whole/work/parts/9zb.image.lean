/-! THE CLASS'S FACE: image, restore, feed -/
section FaceI
variable {l : Launch} {x : CX} {h h' : PH} {nc nf nr fi fi' tl a b : Nat} {t ct rt tp : Nat → Int32} {ow ow' : Nat → Nat} {D D' : DT} {fp : Int32} {I : Option DT} {S : Nat → Prop}
theorem rot_ct (p : Nat → Bool) {fi : Nat} (hf : fi < 40) : fb_ct (fun i => p ((fi + i) % 40)) 40 = fb_ct p 40 := by
  have e1 := fb_ct_split (fun i => p ((fi + i) % 40)) (40 - fi) fi
  have e2 := fb_ct_split p fi (40 - fi)
  rw [show 40 - fi + fi = 40 by omega] at e1
  rw [show fi + (40 - fi) = 40 by omega] at e2
  rw [e1, e2, Nat.add_comm]
  congr 1
  · refine fb_ct_cong fun k hk => ?_
    show p ((fi + (40 - fi + k)) % 40) = p k
    rw [show fi + (40 - fi + k) = k + 40 by omega, Nat.add_mod_right, Nat.mod_eq_of_lt (by omega)]
  · refine fb_ct_cong fun k hk => ?_
    show p ((fi + k) % 40) = p (fi + k)
    rw [Nat.mod_eq_of_lt (by omega)]
theorem cpC_nul {n : Nat} (hf : fi < 40) (hn : n ≤ 40) : cpC h a fi n ≤ nul h a := by
  refine Nat.le_trans (cpC_le h a fi hn) (Nat.le_of_eq ?_)
  unfold cpC nul
  exact rot_ct (fun i => decide (hR h (a + 1) i = none)) hf
theorem k_restore (O : XN x) (K : KS h t ct rt nc nf nr D tl tp fp I) : CQ l x mX7_restore 6 [.ref 0] h t ct rt nc nf nr (match I with | none => (0, D) | some J => (1, J)) tl tp fp I := by
  have Kq : KQ h 0 0 (KZ t ct rt nc nf nr D tl tp fp I) h := KQ.refl K
  obtain ⟨W, ow, fi, K⟩ := K
  have k6 := K.2.2.2.2.2.1
  have k8 := K.2.2.2.2.2.2.2.1
  rcases K.2.2.2.2.2.2.2.2.2 with ⟨e1, e2⟩ | ⟨J, e1, e2⟩
  · subst e1
    exact ⟨0, 0, Nat.zero_le _, Nat.zero_le _, Cm.of (by decide) (Nat.le_of_ble_eq_true rfl) (vX7_restore_0 ⟨K.k0, fun _ => ⟨Or.inl rfl, _, rfl, rfl, Kq⟩, fun z => absurd e2 z⟩)⟩
  · subst e1
    rcases K.2.2.2.2.2.2.2.2.1 with ⟨_, z2⟩ | ⟨p0, z1, z2, z3, z4, z5, z6⟩
    · cases z2
    · obtain ⟨fj, V⟩ := z6 J rfl
      have WJ := W.2.2 J rfl
      have v := K.V
      have c1 := cpC_nul (h := h) (a := 172) V.2.2.1.1 WJ.2.2.2.2
      have e32 := Nat.mul_le_mul_left 32 c1
      have e359 := Nat.mul_le_mul_left 359 c1
      have C := k_copyDesk (l := l) (x := x) O v.1 v.2.1 v.2.2.2.2.2 V WJ.1 (Or.inl (by omega)) (Or.inl (by decide)) (fun i hi => by have := k6 140 (by decide); show ow 140 ≠ _; omega) (fun i hi => by omega)
      refine ⟨_, _, Nat.le_trans e32 (Nat.le_add_right _ _), Nat.le_trans e359 (Nat.le_add_right _ _), Cm.of (by decide) (Nat.le_of_ble_eq_true rfl) (vX7_restore_0 ⟨K.k0, fun z => absurd (e2.symm.trans z) (by decide), fun _ => ⟨fun b3 e3 => ⟨139, K.r6, p0, z1, K.kd, _, _, _, Nat.le_refl _, Nat.le_refl _, C, ?_⟩, fun z => by rw [z1] at z; cases z⟩⟩)⟩
      rintro h1 ⟨ow', eo, V1, p1, n1⟩
      obtain ⟨q1, q2, q3⟩ := K.dkS W p1 eo V1
      exact ⟨Or.inr rfl, _, rfl, rfl, ⟨⟨W.1, WJ, W.2.2⟩, ow', fj, q1⟩, q2, q3 _ 32 38 n1, q3 _ 359 427 n1, p1.1⟩
/-- the desk goes into a picture that stands -/
theorem k_imD {p0 : Nat} (O : XN x) (K : KO h ow fi t ct rt nc nf nr D tl tp fp I) (W : SO t ct rt nc nf nr D I) (z1 : hR h 0 5 = some p0) : CV l x mX3_copyFrom 5 (32 * cpC h (p0 + 33) fi D.2.1.1) (359 * cpC h (p0 + 33) fi D.2.1.1) [.ref p0, .ref 139] h (fun h' => (hK h' 0).1 = 7 ∧ KQ h (32 * cpC h (p0 + 33) fi D.2.1.1) (359 * cpC h (p0 + 33) fi D.2.1.1) (KZ t ct rt nc nf nr D tl tp fp (some D)) (sI h' 0 6 1)) := by
  obtain ⟨k1, k2, k3, k4, k5, k6, k7, k8, k9, k10⟩ := id K
  rcases k9 with ⟨y1, _⟩ | ⟨p1, y1, y2, y3, y4, y5, y6⟩
  · rw [z1] at y1; cases y1
  · obtain rfl : p0 = p1 := Option.some.inj (z1.symm.trans y1)
    have l108 : ow 140 < 100 := k6 140 (by decide)
    have C := k_copyDesk (l := l) (x := x) (T := 200) (T' := 100) O y3 y4 (fun i hi => by omega) k3 W.2.1.1 (Or.inr (by omega)) (Or.inr (by decide)) (fun i hi => by omega) (fun i hi => by show ow 140 ≠ _; omega)
    refine Cm.mono C ?_
    rintro v h1 ⟨e0, ow', eo, V1, p1, n1⟩
    refine ⟨e0, ?_⟩
    have hi : ∀ b, ((p0 ≤ b ∧ b < p0 + 38) ∨ SA h (p0 + 33) ow 200 b) → 201 ≤ b := fun b z => by
      rcases z with z | z
      · omega
      · rcases SA_hi (by decide) k6 k8 z with y | y | y <;> omega
    have A : ∀ b, b < 201 → Ac b h h1 := fun b hb => p1.2 b (by omega) fun z => by have := hi b z; omega
    have f1 := off_SA (a := p0 + 33) (T := 200) k3.2.1 k3.1.a y3.a (by omega) (Or.inr (by decide))
    have fo : offA (fun b => (p0 ≤ b ∧ b < p0 + 38) ∨ SA h (p0 + 33) ow 200 b) h 172 := by
      refine ⟨fun z => by have := hi _ z; omega, fun z => by have := hi _ z; omega, fun i hi2 b e c c1 c2 z => ?_⟩
      rcases z with z | z
      · obtain ⟨s1, _, s3⟩ := k3.2.1 i hi2 b e
        have := off_cells y3 (T := 100) (fun i hi => by omega) c z.1 z.2 b i hi2 s3 s1
        omega
      · exact f1.2.2 i hi2 b e c c1 c2 z
    have V2 : DV h1 139 ow' 100 t ct nc nf fi D := k3.frs W.2.1.1 p1 ⟨fun b q1 q2 z => by have := hi b z; omega, fo⟩ eo
    have n0 := p1.1
    have n3 := y3.nx
    have f0 : Fr1 0 h1 (sI h1 0 6 1) := (Fr1.refl _ _).sI _ _
    have x0 : FrX 0 1 h1 (sI h1 0 6 1) := f0.frx (by decide) (by decide)
    have DO1 : DO ct nc nf nr D := W.2.1
    have s0 : FrS (fun b => b = 0) h1 (sI h1 0 6 1) := f0.frs rfl
    have OW' : OW ow' := fun b hb => by rw [eo b (by omega)]; exact k6 b hb
    have e168 : (hK h1 200).1 = 104 := by rw [(A 200 (by decide)).1]; exact k8
    have V3 : DV (sI h1 0 6 1) 139 ow' 100 t ct nc nf fi D := V2.frs W.2.1.1 s0 ⟨fun b q1 q2 z => by omega, offA_lo V2.2.1 (by decide) OW' e168 (fun b z => by omega) (by decide) (by decide)⟩ (fun _ _ => rfl)
    have V4 : DV (sI h1 0 6 1) p0 ow' 200 t ct nc nf fi D := V1.frs W.2.1.1 s0 ⟨fun b q1 q2 z => by omega, offA_lo V1.2.1 (by decide) OW' e168 (fun b z => by omega) (by omega) (by omega)⟩ (fun _ _ => rfl)
    have r7 : hR h1 0 5 = some p0 := ((A 0 (by decide)).hR 5).trans z1
    refine ⟨by rw [(A 0 (by decide)).1]; exact K.k0, ⟨⟨W.1, W.2.1, fun J e => by cases e; exact W.2.1⟩, ow', fi, (k1.acs fun b hb => A b (by omega)).rk f0.hK f0.hR, (k2.acs W.1.c4 (by have := W.1.r20; omega) fun b q1 q2 => A b (by omega)).acs W.1.c4 (by have := W.1.r20; omega) fun b q1 q2 => f0.ac (by omega), V3, ?_, ?_, OW', by rw [hN_sI]; omega, e168, Or.inr ⟨p0, r7, y2, V4.1, V4.2.1, by rw [eo _ (by omega)]; exact y5, fun J e => by cases e; exact ⟨fi, V4⟩⟩, Or.inr ⟨D, rfl, gI _ _ _ _⟩⟩, fun b q1 q2 => (A b q2).trans (f0.ac (by omega)), ?_, ?_, by rw [hN_sI]; exact n0⟩
    · exact ⟨by rw [gIa _ _ _ _ (by decide), (A 1 (by decide)).hI]; exact k4.1, k4.2.1, fun i hi => by rw [gIa _ _ _ _ (by decide), (A 2 (by decide)).hI]; exact k4.2.2 i hi⟩
    · rw [gIk _ _ _ (by decide), (A 0 (by decide)).hI]; exact k5
    · have e140 : nul h1 172 = nul h 172 := nul_frs k3.1.a p1 fo
      rw [pot_eq (h := h1) f0.hR]
      unfold pot
      rw [r7, z1, e140]
      simp only
      rw [← n1, Nat.mul_add]
      omega
    · have e140 : nul h1 172 = nul h 172 := nul_frs k3.1.a p1 fo
      rw [pot_eq (h := h1) f0.hR]
      unfold pot
      rw [r7, z1, e140]
      simp only
      rw [← n1, Nat.mul_add]
      omega
theorem k_image (O : XN x) (K : KS h t ct rt nc nf nr D tl tp fp I) : ∃ mc ms, mc ≤ pot 32 38 h ∧ ms ≤ pot 359 427 h ∧ CV l x mX7_image 6 mc ms [.ref 0] h (fun h' => KQ h mc ms (KZ t ct rt nc nf nr D tl tp fp (some D)) h') := by
  obtain ⟨W, ow, fi, K⟩ := K
  obtain ⟨k1, k2, k3, k4, k5, k6, k7, k8, k9, k10⟩ := id K
  have hn40 := W.2.1.2.2.2.2
  have hf40 := k3.2.2.1.1
  cases e7 : hR h 0 5 with
  | some p0 =>
    have c1 := cpC_nul (h := h) (a := p0 + 33) hf40 hn40
    have e32 := Nat.mul_le_mul_left 32 c1
    have e359 := Nat.mul_le_mul_left 359 c1
    have b1 : 32 * cpC h (p0 + 33) fi D.2.1.1 ≤ pot 32 38 h := by unfold pot; rw [e7]; simp only; omega
    have b2 : 359 * cpC h (p0 + 33) fi D.2.1.1 ≤ pot 359 427 h := by unfold pot; rw [e7]; simp only; omega
    have kp : (hK h p0).1 = 3 := by
      rcases k9 with ⟨y1, _⟩ | ⟨p1, y1, y2, y3, y4, y5, y6⟩
      · rw [e7] at y1; cases y1
      · obtain rfl : p0 = p1 := Option.some.inj (e7.symm.trans y1)
        exact y3.1
    refine ⟨_, _, b1, b2, Cm.of (by decide) (Nat.le_of_ble_eq_true rfl) (vX7_image_0 ⟨K.k0, fun b2 e2 => ⟨p0, e7, 139, K.r6, kp, _, _, _, Nat.le_refl _, Nat.le_refl _, k_imD O K W e7, ?_⟩, fun z => by rw [e7] at z; cases z⟩)⟩
    rintro h1 ⟨q1, q2⟩
    exact ⟨q1, rfl, q2⟩
  | none =>
    have I0 : I = none := by
      rcases k9 with ⟨_, y2⟩ | ⟨p1, y1, _⟩
      · exact y2
      · rw [e7] at y1; cases y1
    subst I0
    have f8 : hI h 0 6 = 0 := by
      rcases k10 with ⟨_, y2⟩ | ⟨J, y1, _⟩
      · exact y2
      · cases y1
    generalize hp0 : hN h = p0
    -- the new desk
    have step : ∀ h24, hN h24 = p0 + 38 → (∀ b, b < p0 → Ac b h h24) → DS h24 p0 → (∀ i, hR h24 (p0 + 34) i = none) → KO (sR h24 0 5 (some p0)) (fun b => if b = p0 + 1 then 0 else ow b) fi t ct rt nc nf nr D tl tp fp none ∧ nul (sR h24 0 5 (some p0)) (p0 + 33) = 40 ∧ nul (sR h24 0 5 (some p0)) 172 = nul h 172 ∧ ∀ b, b < p0 → b ≠ 0 → Ac b h (sR h24 0 5 (some p0)) := by
      intro h24 n24 A24 S24 N24
      have As : ∀ b, b ≠ 0 → Ac b h24 (sR h24 0 5 (some p0)) := fun b hb => sR_Ac hb
      have A : ∀ b, b < p0 → b ≠ 0 → Ac b h (sR h24 0 5 (some p0)) := fun b hb h0 => (A24 b hb).trans (As b h0)
      have pS : FrS (fun b => b = 0) h (sR h24 0 5 (some p0)) := ⟨by rw [hN_sR, n24]; omega, fun b hb hs => A b (by omega) hs⟩
      have pS2 : FrS (fun b => b = 0) h24 (sR h24 0 5 (some p0)) := ⟨by rw [hN_sR]; exact Nat.le_refl _, fun b hb hs => As b hs⟩
      have eo : ∀ b, b + 32 ≤ hN h → (fun b => if b = p0 + 1 then 0 else ow b) b = ow b := fun b hb => if_neg (by omega)
      have fo : offA (fun b => b = 0) h 172 := offA_lo k3.2.1 (by decide) k6 k8 (fun b z => by omega) (by decide) (by decide)
      have S25 : DS (sR h24 0 5 (some p0)) p0 := S24.frs pS2 fun b q1 q2 z => by omega
      have N25 : ∀ i, hR (sR h24 0 5 (some p0)) (p0 + 33 + 1) i = none := fun i => by rw [(As (p0 + 33 + 1) (by omega)).hR]; exact N24 i
      have A0 : ∀ k, hI (sR h24 0 5 (some p0)) 0 k = hI h 0 k := fun k => by rw [hI_sR]; exact (A24 0 (by omega)).hI k
      have R0 : ∀ k, k ≠ 5 → hR (sR h24 0 5 (some p0)) 0 k = hR h 0 k := fun k hk => by rw [sR_ne _ _ _ hk]; exact (A24 0 (by omega)).hR k
      refine ⟨⟨?_, k2.acs W.1.c4 (by have := W.1.r20; omega) fun b q1 q2 => A b (by omega) (by omega), k3.frs W.2.1.1 pS ⟨fun b q1 q2 z => by omega, fo⟩ eo, ⟨by rw [(A 1 (by omega) (by decide)).hI]; exact k4.1, k4.2.1, fun i hi => by rw [(A 2 (by omega) (by decide)).hI]; exact k4.2.2 i hi⟩, by rw [A0]; exact k5, fun b hb => by
        show (if b = p0 + 1 then 0 else ow b) < 100
        rw [if_neg (by omega)]; exact k6 b hb, by rw [hN_sR, n24]; omega, by rw [(A 200 (by omega) (by decide)).1]; exact k8, Or.inr ⟨p0, sR_at _ _ _ _, by omega, S25, fun i hi b e => (by rw [N25 i] at e; cases e), by show (if p0 + 1 = p0 + 1 then 0 else ow (p0 + 1)) < 100; rw [if_pos rfl]; decide, fun J e => by cases e⟩, Or.inl ⟨rfl, by rw [A0]; exact f8⟩⟩, ?_, nul_frs k3.1.a pS fo, A⟩
      · obtain ⟨q1, q2, q3, q4, q5, q6, q7, q8, q9, q10, q11⟩ := k1
        have A1 := A (0 + 1) (by omega) (by decide)
        exact ⟨by rw [hK_sR, (A24 0 (by omega)).1]; exact q1, by rw [R0 0 (by decide)]; exact q2, by rw [A1.1]; exact q3, by rw [A1.hR]; exact q4, by rw [(A (0 + 2) (by omega) (by decide)).1]; exact q5, by rw [A1.hR]; exact q6, q7.ac fun b q1 q2 => A b (by omega) (by omega), by rw [R0 2 (by decide)]; exact q8, q9.ac fun b q1 q2 => A b (by omega) (by omega), by rw [R0 3 (by decide)]; exact q10, by rw [R0 4 (by decide)]; exact q11⟩
      · unfold nul
        exact fb_ct_all.mpr fun i hi => decide_eq_true (N25 i)
    have b1 : 38 + 32 * D.2.1.1 ≤ pot 32 38 h := by unfold pot; rw [e7]; simp only; omega
    have b2 : 427 + 359 * D.2.1.1 ≤ pot 359 427 h := by unfold pot; rw [e7]; simp only; omega
    refine ⟨38 + 32 * D.2.1.1, 427 + 359 * D.2.1.1, b1, b2, Cm.of (by decide) (Nat.le_of_ble_eq_true rfl) (vX7_image_0 ⟨K.k0, fun b2 e2 => (by rw [e7] at e2; cases e2), fun _ => ⟨by omega, by omega, ?_⟩⟩)⟩
    rw [hp0]
    rintro h19 e19
    have n19 : hN h19 = p0 + 1 := by rw [e19, hN_nw, hp0]
    have k19 : hK h19 p0 = (3, 0) := by rw [e19, ← hp0]; exact nw_K _ _
    have A19 : ∀ b, b < p0 → Ac b h h19 := fun b hb => by rw [e19]; exact nw_Ac (by omega)
    refine ⟨O.n_RX7_36, 37, 421, _, by omega, by omega, k_initDesk O (d := p0) (by rw [k19]) n19, ?_⟩
    rintro h24 ⟨n24, a24, S24, _, N24, _⟩
    have A24 : ∀ b, b < p0 → Ac b h h24 := fun b hb => (A19 b hb).trans (a24 b hb)
    obtain ⟨K25, u1, u2, A25⟩ := step h24 n24 A24 S24 N24
    have r25 : hR (sR h24 0 5 (some p0)) 0 5 = some p0 := sR_at _ _ _ _
    have ec : cpC (sR h24 0 5 (some p0)) (p0 + 33) fi D.2.1.1 = D.2.1.1 := by
      unfold cpC
      refine fb_ct_all.mpr fun i hi => decide_eq_true ?_
      rw [(sR_Ac (h := h24) (a := 0) (k := 5) (v := some p0) (b := p0 + 33 + 1) (by omega)).hR]
      exact N24 _
    have cI := k_imD (l := l) O K25 W r25
    rw [ec] at cI
    refine ⟨by rw [(A24 0 (by omega)).1]; exact K.k0, p0, r25, 139, K25.r6, S24.1, _, _, _, by omega, by omega, cI, ?_⟩
    rintro h35 ⟨q1, q2⟩
    have P1 : ∀ c s, pot c s h = pot c s (sR h24 0 5 (some p0)) + s := fun c s => by
      unfold pot
      rw [e7, r25, u2]
      simp only
      rw [u1]
      omega
    have P2 := P1 32 38
    have P3 := P1 359 427
    have y1 := q2.2.2.1
    have y2 := q2.2.2.2.1
    have y3 := q2.2.2.2.2
    rw [hN_sR, n24] at y3
    exact ⟨q1, rfl, q2.1, fun b b1 b2 => (A25 b (by omega) (by omega)).trans (q2.2.1 b b1 b2), by omega, by omega, by omega⟩
theorem ch_nar : ∀ v, v < 256 → vp_nar .char ((nI v).toUInt32 % 65536).toInt32 = nI v := by decide +kernel
def PB (h : PH) (tl : Nat) (w : Int32) (h' : PH) : Prop := FrX 1 3 h h' ∧ hI h' 1 1 = nI (tl + 4) ∧ (∀ i, i < tl → hI h' 2 i = hI h 2 i) ∧ ∀ j, j < 4 → hI h' 2 (tl + j) = nI (q8 w j)
theorem k_put {w : Int32} (L : LBS h 0) (e : hI h 1 1 = nI tl) (h9 : tl + 4 ≤ 900) : CV l x mX4_put 0 0 0 [.ref 1, .int w] h (fun h' => PB h tl w h') := by
  have L4 : (hK h 1).1 = 4 := L.2.2.1
  have L0 : hR h 1 0 = some 2 := L.2.2.2.1
  have L2 : hK h 2 = (101, 900) := L.2.2.2.2.1
  have loop : ∀ (i j : Nat) (g : PH), j + i = 4 → FrX 1 3 h g → hI g 1 1 = nI (tl + j) → (∀ i, i < tl → hI g 2 i = hI h 2 i) → (∀ k, k < j → hI g 2 (tl + k) = nI (q8 w k)) → Gm l x mX4_put 0 3 [(0, .ref 1), (1, .int w), (2, .int (nI 24 + nI j * (-8)))] [] g 0 0 (hN h) (fun v h' => v = none ∧ PB h tl w h') (fun _ _ => False) := by
    intro i
    induction i with
    | zero =>
      intro j g hj p g1 g3 g4
      obtain rfl : j = 4 := by omega
      exact vX4_put_3 ⟨fun _ => ⟨rfl, p, g1, g3, g4⟩, fun z => absurd (by decide) z⟩
    | succ i ih =>
      intro j g hj p g1 g3 g4
      have ex : nI 24 + nI j * (-8) = nI (24 - 8 * j) ∧ ¬ nI 24 + nI j * (-8) < 0 ∧ nI 24 + nI j * (-8) + (-8) = nI 24 + nI (j + 1) * (-8) := (by decide +kernel : ∀ j, j < 4 → nI 24 + nI j * (-8) = nI (24 - 8 * j) ∧ ¬ nI 24 + nI j * (-8) < 0 ∧ nI 24 + nI j * (-8) + (-8) = nI 24 + nI (j + 1) * (-8)) j (by omega)
      have kg : hK g 2 = (101, 900) := by rw [p.hK]; exact L2
      refine vX4_put_3 ⟨fun z => absurd z ex.2.1, fun _ => ⟨by rw [p.hK]; exact L4, 2, by rw [p.hR]; exact L0, by rw [kg], fun z => absurd z (by rw [kg, g1]; exact nI_ge (b := 900) (by omega) (by decide)), fun _ => ⟨by rw [kg, g1]; exact vp_in_nI (by omega) (by decide), ?_⟩⟩⟩
      rw [ex.1, q8_u w j (by omega), ch_nar _ (q8_lt w j), g1, nI_clamp (by omega), gIa _ _ _ _ (by decide), g1, show nI (tl + j) + 1 = nI (tl + (j + 1)) from nI_add (tl + j) 1, ← ex.1, ex.2.2]
      refine ih (j + 1) _ (by omega) ((p.trans (((Fr1.refl 2 g).sI _ _).frx (by decide) (by decide))).trans (((Fr1.refl 1 _).sI _ _).frx (by decide) (by decide))) (gI _ _ _ _) (fun k hk => ?_) (fun k hk => ?_)
      · rw [gIa _ _ _ _ (by decide), gIk _ _ _ (by omega)]; exact g3 k hk
      · rw [gIa _ _ _ _ (by decide)]
        by_cases z : k = j
        · rw [z, gI]
        · rw [gIk _ _ _ (by omega)]; exact g4 k (by omega)
  refine Cm.of (by decide) (Nat.le_of_ble_eq_true rfl) (vX4_put_0 ?_)
  exact loop 4 0 h rfl (FrX.refl _ _ _) e (fun _ _ => rfl) (fun k z => absurd z (Nat.not_lt_zero _))
theorem k_feed {a b c d e : Int32} (K : KS h t ct rt nc nf nr D tl tp fp I) : CI l x mX7_feed 1 0 0 [.ref 0, .int a, .int b, .int c, .int d, .int e] h (fun v h' => (tl + 20 ≤ 900 ∧ v = nI (tl + 20) ∧ KQ h 0 0 (KZ t ct rt nc nf nr D (tl + 20) (fdT tl tp a b c d e) fp I) h') ∨ (¬ tl + 20 ≤ 900 ∧ v = -1 ∧ KQ h 0 0 (KZ t ct rt nc nf nr D tl tp fp I) h')) := by
  have Kq : KQ h 0 0 (KZ t ct rt nc nf nr D tl tp fp I) h := KQ.refl K
  obtain ⟨W, ow, fi, K⟩ := K
  have k4 := K.2.2.2.1
  have L := K.L
  have h900 := k4.2.1
  refine Cm.of (by decide) (Nat.le_of_ble_eq_true rfl) (vX7_feed_0 ⟨K.k0, 1, K.rr, K.kr, fun z => ?_, fun z => ⟨_, rfl, Or.inr ⟨fun y => z (by rw [k4.1, show nI tl + 20 = nI (tl + 20) from nI_add tl 20]; exact nI_le (b := 900) y (by decide)), rfl, Kq⟩⟩⟩)
  rw [k4.1, show nI tl + 20 = nI (tl + 20) from nI_add tl 20] at z
  have h9 : tl + 20 ≤ 900 := Nat.le_of_not_lt fun y => absurd z (nI_ge (a := 900) y (by omega))
  refine ⟨_, k_put L k4.1 (by omega), ?_⟩
  rintro h1 ⟨p1, n1, o1, w1⟩
  have L1 := L.rk p1.hK p1.hR
  refine ⟨L1.1, 1, L1.2.1, L1.2.2.1, _, k_put L1 n1 (by omega), ?_⟩
  rintro h2 ⟨p2, n2, o2, w2⟩
  have L2 := L1.rk p2.hK p2.hR
  refine ⟨L2.1, 1, L2.2.1, L2.2.2.1, _, k_put L2 n2 (by omega), ?_⟩
  rintro h3 ⟨p3, n3, o3, w3⟩
  have L3 := L2.rk p3.hK p3.hR
  refine ⟨L3.1, 1, L3.2.1, L3.2.2.1, _, k_put L3 n3 (by omega), ?_⟩
  rintro h4 ⟨p4, n4, o4, w4⟩
  have L4 := L3.rk p4.hK p4.hR
  refine ⟨L4.1, 1, L4.2.1, L4.2.2.1, _, k_put L4 n4 (by omega), ?_⟩
  rintro h5 ⟨p5, n5, o5, w5⟩
  have L5 := L4.rk p5.hK p5.hR
  have p := (((p1.trans p2).trans p3).trans p4).trans p5
  have T5 : TA h5 (tl + 20) (fdT tl tp a b c d e) := by
    refine ⟨n5, h9, fun i hi => ?_⟩
    unfold fdT
    by_cases y : i < tl
    · rw [if_pos y, o5 i (by omega), o4 i (by omega), o3 i (by omega), o2 i (by omega), o1 i y]; exact k4.2.2 i y
    · rw [if_neg y]
      obtain ⟨k, rfl⟩ : ∃ k, i = tl + k := ⟨i - tl, by omega⟩
      rw [show tl + k - tl = k by omega]
      unfold fdB fdW
      rcases (show k < 4 ∨ (4 ≤ k ∧ k < 8) ∨ (8 ≤ k ∧ k < 12) ∨ (12 ≤ k ∧ k < 16) ∨ (16 ≤ k ∧ k < 20) by omega) with q | q | q | q | q
      · rw [if_pos q, o5 _ (by omega), o4 _ (by omega), o3 _ (by omega), o2 _ (by omega), w1 k q, Nat.mod_eq_of_lt q]
      · rw [if_neg (by omega), if_pos q.2, o5 _ (by omega), o4 _ (by omega), o3 _ (by omega), show tl + k = tl + 4 + (k - 4) by omega, w2 (k - 4) (by omega), show k % 4 = k - 4 by omega]
      · rw [if_neg (by omega), if_neg (by omega), if_pos q.2, o5 _ (by omega), o4 _ (by omega), show tl + k = tl + 4 + 4 + (k - 8) by omega, w3 (k - 8) (by omega), show k % 4 = k - 8 by omega]
      · rw [if_neg (by omega), if_neg (by omega), if_neg (by omega), if_pos q.2, o5 _ (by omega), show tl + k = tl + 4 + 4 + 4 + (k - 12) by omega, w4 (k - 12) (by omega), show k % 4 = k - 12 by omega]
      · rw [if_neg (by omega), if_neg (by omega), if_neg (by omega), if_neg (by omega), show tl + k = tl + 4 + 4 + 4 + 4 + (k - 16) by omega, w5 (k - 16) (by omega), show k % 4 = k - 16 by omega]
  have A0 : Ac 0 h h5 := p.ac (by omega)
  refine ⟨L5.1, 1, L5.2.1, L5.2.2.1, _, rfl, Or.inl ⟨h9, n5, KQ.frx ⟨W, ow, fi, ?_⟩ p (by decide)⟩⟩
  exact K.gen W (S := fun b => b < 3) (p.frs fun b _ z => z) (fun b z => by omega) (fun b q1 q2 z => by omega) (by rw [p.hK]; exact K.2.2.2.2.2.2.2.1) L5 (K.R.acs W.1.c4 (by have := W.1.r20; omega) fun b q1 q2 => p.ac (by omega)) T5 (by rw [A0.hI]; exact K.2.2.2.2.1) (A0.hR 5) (A0.hI 6)
end FaceI
