/-! THE CLASS'S FACE: years -/
section FaceY
variable {l : Launch} {x : CX} {h h' : PH} {nc nf nr fi fi' tl a b : Nat} {t ct rt tp : Nat → Int32} {ow ow' : Nat → Nat} {D D' : DT} {fp : Int32} {I : Option DT} {S : Nat → Prop} {f : Nat → Int32}
theorem k_nextSeed {s : Int32} : CI l x mX7_nextSeed 0 0 0 [.int s] h (fun r h' => r = nx s ∧ h' = h) := Cm.of (by decide) (Nat.le_of_ble_eq_true rfl) (vX7_nextSeed_0 ⟨_, rfl, rfl, rfl⟩)
theorem k_drawOf {s : Int32} {n : Nat} (h0 : 0 < n) (hn : n < 2 ^ 31) : CI l x mX7_drawOf 0 0 0 [.int s, .int (nI n)] h (fun r h' => r = nI (dN s n) ∧ h' = h) := by
  refine Cm.of (by decide) (Nat.le_of_ble_eq_true rfl) (vX7_drawOf_0 ⟨fun _ => ⟨fun z => by have := (nI_eq (b := 0) hn (by decide)).mp z; omega, _, rfl, ?_, rfl⟩, fun z => absurd (nI_le (a := 1) (by omega) hn) z⟩)
  rw [dr_u, dN_eq h0 hn]
theorem so_if (s : Int32) : (if nI (dN s 2) = 1 then 2 else 1 : Int32) = nI (dN s 2 + 1) := by
  rcases (show dN s 2 = 0 ∨ dN s 2 = 1 by have := dN_lt (s := s) (n := 2) (by decide); omega) with z | z <;> rw [z] <;> decide
theorem k_play {sd : Int32} {N m : Nat} {g0 : PH} (O : XN x) (k0 : (hK g0 0).1 = 7) (r3 : hR g0 0 2 = some 35) (T : TD t ct rt nc nf nr) (B : BR g0 35 t ct nc nf m f) (W : Row ct nc nf m f) (hN1 : N ≤ 20) : CV l x mX7_playYears 5 0 0 [.ref 0, .int sd, .int (nI N)] g0 (fun h' => FrB 35 g0 h' ∧ BR h' 35 t ct nc nf (yrA t ct nc nf (sd, f, m) N).2.2 (yrA t ct nc nf (sd, f, m) N).2.1) := by
  have hf := T.f2
  have hF := T.f12
  have loop : ∀ (j i : Nat) (g : PH), i + j = N → FrB 35 g0 g → BR g 35 t ct nc nf (yrA t ct nc nf (sd, f, m) i).2.2 (yrA t ct nc nf (sd, f, m) i).2.1 → Gm l x mX7_playYears 5 5 [(0, .ref 0), (1, .int sd), (2, .int (nI N)), (3, .int (yrA t ct nc nf (sd, f, m) i).1), (4, .int (nI i))] [] g 0 0 (hN g0) (fun v h' => v = none ∧ FrB 35 g0 h' ∧ BR h' 35 t ct nc nf (yrA t ct nc nf (sd, f, m) N).2.2 (yrA t ct nc nf (sd, f, m) N).2.1) (fun _ _ => False) := by
    intro j
    induction j with
    | zero =>
      intro i g hi p Bg
      obtain rfl : i = N := by omega
      exact vX7_playYears_5 ⟨fun _ => ⟨rfl, p, Bg⟩, fun z => absurd (nI_le (Nat.le_refl _) (by omega)) z⟩
    | succ j ih =>
      intro i g hi p Bg
      have WY := Row_yr (y := (sd, f, m)) T.tk.1 hf W i
      have WC := Row_yc (y := yrA t ct nc nf (sd, f, m) i) hf WY
      have ihn := ih (i + 1)
      rw [show yrA t ct nc nf (sd, f, m) (i + 1) = yrS t ct nc nf (yrA t ct nc nf (sd, f, m) i) from rfl] at ihn
      generalize yrA t ct nc nf (sd, f, m) i = y at Bg WY WC ihn
      have e1 : (yrS t ct nc nf y).1 = nx (nx (nx (nx y.1))) := by unfold yrS; exact trip_1 _ _ _
      have e2 : (yrS t ct nc nf y).2.1 = ticksC t ct (yrC nf y).2 nf nc (yrC nf y).1 (yrT y.1) := by unfold yrS; exact trip_21 _ _ _
      have e3 : (yrS t ct nc nf y).2.2 = (yrC nf y).2 := by unfold yrS; exact trip_22 _ _ _
      rw [e1, e2, e3] at ihn
      generalize hyT : yrT y.1 = yT at ihn
      have hyT2 : nI (dN (nx (nx (nx (nx y.1)))) 8) + 1 = nI yT := by rw [← hyT]; exact nI_add _ 1
      have hyT3 : yT < 100000 := by rw [← hyT]; have := dN_lt (s := nx (nx (nx (nx y.1)))) (n := 8) (by decide); show dN (nx (nx (nx (nx y.1)))) 8 + 1 < 100000; omega
      have q0 : (hK g 0).1 = 7 := by rw [p.hK]; exact k0
      have q3 : hR g 0 2 = some 35 := by rw [p.hR]; exact r3
      refine vX7_playYears_5 ⟨fun z => absurd z (nI_ge (by omega) (by omega)), fun _ => ⟨_, k_nextSeed, ?_⟩⟩
      rintro _ _ ⟨rfl, rfl⟩
      refine ⟨q0, 35, q3, Bg.s.k, _, by rw [Bg.fl]; exact k_drawOf (by omega) (by omega), ?_⟩
      rintro _ _ ⟨rfl, rfl⟩
      refine ⟨_, k_nextSeed, ?_⟩
      rintro _ _ ⟨rfl, rfl⟩
      refine ⟨q0, 35, q3, Bg.s.k, _, by rw [Bg.fl, show nI nf - 1 = nI (nf - 1) from by obtain ⟨z, rfl⟩ : ∃ z, nf = z + 1 := ⟨nf - 1, by omega⟩; exact nI_pred z]; exact k_drawOf (by omega) (by omega), ?_⟩
      rintro _ _ ⟨rfl, rfl⟩
      refine ⟨_, k_nextSeed, ?_⟩
      rintro _ _ ⟨rfl, rfl⟩
      refine ⟨_, k_drawOf (n := 2) (by decide) (by decide), ?_⟩
      rintro _ _ ⟨rfl, rfl⟩
      rw [show nI i + 1 = nI (i + 1) from nI_add i 1]
      have fin : ∀ (g1 : PH), FrB 35 g0 g1 → BR g1 35 t ct nc nf (yrC nf y).2 (yrC nf y).1 → ∃ q : Int32 → PH → Prop, CI l x mX7_nextSeed 0 0 0 [.int (nx (nx (nx y.1)))] g1 q ∧ ∀ (r : Int32) (h43 : PH), q r h43 → (hK h43 0).1 = 7 ∧ ∃ b46, hR h43 0 2 = some b46 ∧ ∃ q48 : Int32 → PH → Prop, CI l x mX7_drawOf 0 0 0 [.int r, .int 8] h43 q48 ∧ ∀ (r51 : Int32) (h50 : PH), q48 r51 h50 → (hK h50 b46).1 = 1 ∧ ∃ q52 : PH → Prop, CV l x mX1_pass 4 0 0 [.ref b46, .int (r51 + 1)] h50 q52 ∧ ∀ h55 : PH, q52 h55 → Gm l x mX7_playYears 5 5 [(0, .ref 0), (1, .int sd), (2, .int (nI N)), (3, .int r), (4, .int (nI (i + 1)))] [] h55 0 0 (hN g0) (fun v h' => v = none ∧ FrB 35 g0 h' ∧ BR h' 35 t ct nc nf (yrA t ct nc nf (sd, f, m) N).2.2 (yrA t ct nc nf (sd, f, m) N).2.1) (fun _ _ => False) := by
        intro g1 p1 B1
        refine ⟨_, k_nextSeed, ?_⟩
        rintro _ _ ⟨rfl, rfl⟩
        refine ⟨by rw [p1.hK]; exact k0, 35, by rw [p1.hR]; exact r3, _, k_drawOf (n := 8) (by decide) (by decide), ?_⟩
        rintro _ _ ⟨rfl, rfl⟩
        refine ⟨B1.s.k, _, by rw [hyT2]; exact k_pass O.n_RX1_140 T.tk.1 T.ct' B1 WC hyT3, ?_⟩
        rintro g2 ⟨p2, B2⟩
        exact ihn g2 (by omega) (p1.trans p2) B2
      refine ⟨q0, 35, q3, Bg.s.k, fun z => ?_, fun z => ?_⟩
      · rw [Bg.nr] at z
        have e24 : 24 ≤ y.2.2 := Nat.le_of_not_lt fun q => nI_ge (a := y.2.2) (b := 24) q (by decide) z
        have eC : yrC nf y = (y.2.1, y.2.2) := if_pos e24
        exact fin _ p (by rw [eC]; exact Bg)
      · rw [Bg.nr] at z
        have e24 : ¬ 24 ≤ y.2.2 := fun q => z (nI_le (a := 24) q (by have := WY.r24; omega))
        have eC : yrC nf y = (cwF y.2.1 y.2.2 (nI (dN (nx y.1) nf)) (nI (yrB y.1 nf)) (nI (dN (nx (nx (nx y.1))) 2 + 1)), y.2.2 + 1) := if_neg e24
        have eB : (if nI (dN (nx (nx y.1)) (nf - 1)) < nI (dN (nx y.1) nf) then nI (dN (nx (nx y.1)) (nf - 1)) else nI (dN (nx (nx y.1)) (nf - 1)) + 1 : Int32) = nI (yrB y.1 nf) := by
          have l1 := dN_lt (s := nx (nx y.1)) (n := nf - 1) (by omega)
          have l2 := dN_lt (s := nx y.1) (n := nf) (by omega)
          unfold yrB
          by_cases q : dN (nx (nx y.1)) (nf - 1) < dN (nx y.1) nf
          · rw [if_pos q, if_pos (nI_lt q (by omega))]
          · rw [if_neg q, if_neg fun s => q ((nI_ltI (by omega) (by omega)).mp s)]
            exact nI_add _ 1
        rw [eB, so_if]
        refine ⟨_, k_addByHand Bg WY (by omega) (so12 _) rfl (dN_lt (by omega)) rfl (yrB_lt hf), ?_⟩
        rintro _ g1 ⟨rfl, p1, B1⟩
        exact fin g1 (p.trans p1) (by rw [eC]; exact B1)
  exact Cm.of (by decide) (Nat.le_of_ble_eq_true rfl) (vX7_playYears_0 (loop N 0 g0 (by omega) (FrB.refl _ _) B))
theorem k_years {sd n k : Int32} (O : XN x) (K : KS h t ct rt nc nf nr D tl tp fp I) : CK l x mX7_years 8 [.ref 0, .int sd, .int n, .int k] h (aYears D.1 t ct nc nf (rn D.1) sd n k) exN (KQ h 0 0 (KZ t ct rt nc nf nr D tl tp fp I)) := by
  have Kq : KQ h 0 0 (KZ t ct rt nc nf nr D tl tp fp I) h := KQ.refl K
  obtain ⟨W, ow, fi, K⟩ := K
  have hC := W.1.c4
  have h24 := W.2.1.w.r24
  have no1 : ¬ inR k 3 → aYears D.1 t ct nc nf (rn D.1) sd n k = .inr 1 := fun z => ite'_f z
  have no2 : inR k 3 → ¬ inR n 21 → aYears D.1 t ct nc nf (rn D.1) sd n k = .inr 2 := fun y z => (ite'_t y).trans (ite'_f z)
  refine Cm.of (by decide) (Nat.le_of_ble_eq_true rfl) (vX7_years_0 ⟨fun e => ⟨O.th_384, Nat.le_refl _, Nat.le_refl _, 1, no1 (inR_n0 (by decide) e), rfl, Kq⟩, fun e => ⟨fun e2 => ?_, fun e2 => ⟨O.th_384, Nat.le_refl _, Nat.le_refl _, 1, no1 (inR_nK (n := 3) rfl (by decide) e2), rfl, Kq⟩⟩⟩)
  have ik : inR k 3 := inR_mk (n := 3) rfl (by decide) e e2
  refine ⟨fun e3 => ⟨O.th_386, Nat.le_refl _, Nat.le_refl _, 2, no2 ik (inR_n0 (by decide) e3), rfl, Kq⟩, fun e3 => ⟨fun e4 => ?_, fun e4 => ⟨O.th_386, Nat.le_refl _, Nat.le_refl _, 2, no2 ik (inR_nK (n := 21) rfl (by decide) e4), rfl, Kq⟩⟩⟩
  have iN : inR n 21 := inR_mk (n := 21) rfl (by decide) e3 e4
  obtain ⟨N, hN1, rfl⟩ := id iN
  obtain ⟨j, hj, ej⟩ := id ik
  have yes : aYears D.1 t ct nc nf (rn D.1) sd (nI N) k = .inl (yrV (yrA t ct nc nf (sd, D.1, rn D.1) N) D.1 (rn D.1) j) := by
    unfold aYears
    rw [ite'_t ik, ite'_t iN, nI_clamp (by omega), ej, nI_clamp (by omega)]
  refine ⟨K.k0, 139, K.r6, K.kd, 140, K.r0, 35, K.r3, K.b2.k, _, k_toSpare K W, ?_⟩
  rintro h1 ⟨p1, B1⟩
  have k01 : (hK h1 0).1 = 7 := by rw [p1.hK]; exact K.k0
  have r31 : hR h1 0 2 = some 35 := by rw [p1.hR]; exact K.r3
  refine ⟨k01, _, k_play O k01 r31 W.1 B1 W.2.1.w (by omega), ?_⟩
  rintro h2 ⟨p2, B2⟩
  have WY := Row_yr (y := (sd, D.1, rn D.1)) W.1.tk.1 W.1.f2 W.2.1.w N
  generalize yrA t ct nc nf (sd, D.1, rn D.1) N = y at yes B2 WY
  have p := p1.trans p2
  have Q2 := K.spQ W p
  have K2 : (hK h2 0).1 = 7 := by rw [p.hK]; exact K.k0
  have R2 : hR h2 0 2 = some 35 := by rw [p.hR]; exact K.r3
  have N2 : BR h2 140 t ct nc nf (rn D.1) D.1 := (K.spare W p).B
  refine ⟨fun z => ⟨K2, 35, R2, B2.s.k, _, rfl, ?_, Q2⟩, fun z => ⟨K2, 35, R2, B2.s.k, _, k_waitedInAll B2.po' WY.r24, ?_⟩, fun z => ⟨K2, 35, R2, B2.s.k, _, k_passedInAll B2 hC, ?_⟩⟩
  · rw [yes, toInt_n (n := 0) z ej (by omega), B2.fi]
    exact congrArg Sum.inl (mny_cnt _)
  · rintro _ _ ⟨rfl, rfl⟩
    refine ⟨N2.s.k, _, k_waitedInAll N2.po' h24, ?_⟩
    rintro _ _ ⟨rfl, rfl⟩
    exact ⟨_, rfl, by rw [yes, toInt_n (n := 1) z ej (by omega)]; rfl, Q2⟩
  · rintro _ _ ⟨rfl, rfl⟩
    refine ⟨N2.s.k, _, k_passedInAll N2 hC, ?_⟩
    rintro _ _ ⟨rfl, rfl⟩
    have j2 : j = 2 := by
      rw [ej, nI_toInt (by omega)] at z
      omega
    exact ⟨_, rfl, by rw [yes, j2]; rfl, Q2⟩
end FaceY
