/-! THE CLASS'S FACE: note, ahead, when, ticksToQuiet -/
section Face2
variable {l : Launch} {x : CX} {h h' : PH} {nc nf nr fi fi' tl a b : Nat} {t ct rt tp : Nat → Int32} {ow ow' : Nat → Nat} {D D' : DT} {fp : Int32} {I : Option DT} {S : Nat → Prop}
theorem inR_mk {v K : Int32} {n : Nat} (hK : K = nI n - 1) (hn : n < 2 ^ 31) (h0 : ¬ v < 0) (h1 : v ≤ K) : inR v n := (inR_k hK hn).mp (by rw [if_neg h0, if_neg (Int32.not_lt.mpr h1)]; decide)
theorem inR_n0 {v : Int32} {n : Nat} (hn : n < 2 ^ 31) (h0 : v < 0) : ¬ inR v n := fun z => ((inR_iff hn).mpr z).1 h0
theorem inR_nK {v K : Int32} {n : Nat} (hK : K = nI n - 1) (hn : n < 2 ^ 31) (h1 : ¬ v ≤ K) : ¬ inR v n := fun z => (inR_k hK hn).mpr z (by
  by_cases e : v < 0
  · rw [if_pos e]
  · rw [if_neg e, if_pos (Int32.not_le.mp h1)])
theorem toInt_n {j n : Nat} {k : Int32} (e : k.toInt = ((n : Nat) : Int)) (ek : k = nI j) (hj : j < 2 ^ 31) : j = n := by
  rw [ek, nI_toInt hj] at e
  omega
theorem KO.spQ (K : KO h ow fi t ct rt nc nf nr D tl tp fp I) (W : SO t ct rt nc nf nr D I) (p : FrB 35 h h') : KQ h 0 0 (KZ t ct rt nc nf nr D tl tp fp I) h' := KQ.frx ⟨W, ow, fi, K.spare W p⟩ (p.frx (a := 35) (b := 67) (by decide) (by decide)) (by decide)
theorem k_toSpare (K : KO h ow fi t ct rt nc nf nr D tl tp fp I) (W : SO t ct rt nc nf nr D I) : CV l x mX1_copyFrom 1 0 0 [.ref 35, .ref 140] h (fun h' => FrB 35 h h' ∧ BR h' 35 t ct nc nf (rn D.1) D.1) := by
  obtain ⟨⟨m, J⟩, G, _⟩ := id W.2.1.w
  exact k_copyBank K.B K.b2 J G (by decide)
theorem k_ahead {n k : Int32} (O : XN x) (K : KS h t ct rt nc nf nr D tl tp fp I) : CK l x mX7_ahead 8 [.ref 0, .int n, .int k] h (aAhead D.1 t ct nc nf (rn D.1) n k) exN (KQ h 0 0 (KZ t ct rt nc nf nr D tl tp fp I)) := by
  have Kq : KQ h 0 0 (KZ t ct rt nc nf nr D tl tp fp I) h := KQ.refl K
  obtain ⟨W, ow, fi, K⟩ := K
  have hC := W.1.c4
  have h24 := W.2.1.w.r24
  have no1 : ¬ inR k 4 → aAhead D.1 t ct nc nf (rn D.1) n k = .inr 1 := fun z => ite'_f z
  have no2 : inR k 4 → ¬ inR n 121 → aAhead D.1 t ct nc nf (rn D.1) n k = .inr 2 := fun y z => (ite'_t y).trans (ite'_f z)
  refine Cm.of (by decide) (Nat.le_of_ble_eq_true rfl) (vX7_ahead_0 ⟨fun e => ⟨O.th_308, Nat.le_refl _, Nat.le_refl _, 1, no1 (inR_n0 (by decide) e), rfl, Kq⟩, fun e => ⟨fun e2 => ?_, fun e2 => ⟨O.th_308, Nat.le_refl _, Nat.le_refl _, 1, no1 (inR_nK (n := 4) rfl (by decide) e2), rfl, Kq⟩⟩⟩)
  have ik : inR k 4 := inR_mk (n := 4) rfl (by decide) e e2
  refine ⟨fun e3 => ⟨O.th_310, Nat.le_refl _, Nat.le_refl _, 2, no2 ik (inR_n0 (by decide) e3), rfl, Kq⟩, fun e3 => ⟨fun e4 => ?_, fun e4 => ⟨O.th_310, Nat.le_refl _, Nat.le_refl _, 2, no2 ik (inR_nK (n := 121) rfl (by decide) e4), rfl, Kq⟩⟩⟩
  have iN : inR n 121 := inR_mk (n := 121) rfl (by decide) e3 e4
  obtain ⟨N, hN1, rfl⟩ := id iN
  obtain ⟨j, hj, ej⟩ := id ik
  have yes : aAhead D.1 t ct nc nf (rn D.1) (nI N) k = .inl (ahV (ticksC t ct (rn D.1) nf nc D.1 N) nc (rn D.1) j) := by
    unfold aAhead
    rw [ite'_t ik, ite'_t iN, nI_clamp (by omega), ej, nI_clamp (by omega)]
  refine ⟨K.k0, 35, K.r3, 139, K.r6, K.kd, 140, K.r0, K.b2.k, _, k_toSpare K W, ?_⟩
  rintro h1 ⟨p1, B1⟩
  refine ⟨by rw [p1.hK]; exact K.k0, 35, by rw [p1.hR]; exact K.r3, B1.s.k, _, k_pass O.n_RX1_140 W.1.tk.1 W.1.ct' B1 W.2.1.w (by omega), ?_⟩
  rintro h2 ⟨p2, B2⟩
  have p := p1.trans p2
  have Q2 := K.spQ W p
  have K2 : (hK h2 0).1 = 7 := by rw [p.hK]; exact K.k0
  have R2 : hR h2 0 2 = some 35 := by rw [p.hR]; exact K.r3
  refine ⟨fun z => ⟨K2, 35, R2, B2.s.k, _, rfl, ?_, Q2⟩, fun z => ⟨K2, 35, R2, B2.s.k, _, k_passedInAll B2 hC, ?_⟩, fun z => ⟨K2, 35, R2, B2.s.k, _, k_waitedInAll B2.po' h24, ?_⟩, fun z => ⟨K2, 35, R2, B2.s.k, _, k_stopped B2 hC, ?_⟩⟩
  · rw [yes, toInt_n (n := 0) z ej (by omega), B2.fi]
    exact congrArg Sum.inl (mny_cnt _)
  · rintro _ _ ⟨rfl, rfl⟩
    exact ⟨_, rfl, by rw [yes, toInt_n (n := 1) z ej (by omega)]; rfl, Q2⟩
  · rintro _ _ ⟨rfl, rfl⟩
    exact ⟨_, rfl, by rw [yes, toInt_n (n := 2) z ej (by omega)]; rfl, Q2⟩
  · rintro _ _ ⟨rfl, rfl⟩
    have j3 : j = 3 := by
      rw [ej, nI_toInt (by omega)] at z
      omega
    exact ⟨_, rfl, by rw [yes, j3]; rfl, Q2⟩
theorem k_when {r : Int32} (O : XN x) (K : KS h t ct rt nc nf nr D tl tp fp I) : CK l x mX7_when 8 [.ref 0, .int r] h (aWhen D.1 t ct nc nf (rn D.1) r) exN (KQ h 0 0 (KZ t ct rt nc nf nr D tl tp fp I)) := by
  have Kq : KQ h 0 0 (KZ t ct rt nc nf nr D tl tp fp I) h := KQ.refl K
  obtain ⟨W, ow, fi, K⟩ := K
  have B := K.B
  have h24 := W.2.1.w.r24
  refine Cm.of (by decide) (Nat.le_of_ble_eq_true rfl) (vX7_when_0 ⟨K.k0, 139, K.r6, K.kd, 140, K.r0, fun e => ⟨O.th_235, Nat.le_refl _, Nat.le_refl _, 1, ite'_f (inR_n0 (by omega) e), rfl, Kq⟩, fun e => ⟨B.s.k, fun e2 => ?_, fun e2 => ?_⟩⟩)
  · rw [B.nr] at e2
    have ir := (inR_iff (by omega)).mp ⟨e, Int32.not_le.mpr e2⟩
    obtain ⟨n, hn, en⟩ := id ir
    have yes : aWhen D.1 t ct nc nf (rn D.1) r = .inl (ticksC t ct (rn D.1) nf nc D.1 200 (48 + 9 * n + 7)) := by
      unfold aWhen
      rw [ite'_t ir, en, nI_clamp (by omega)]
    refine ⟨35, K.r3, K.b2.k, _, k_toSpare K W, ?_⟩
    rintro h1 ⟨p1, B1⟩
    have pr := B1.s.pr n (by omega)
    refine ⟨by rw [p1.hK]; exact K.k0, 35, by rw [p1.hR]; exact K.r3, B1.s.k, _, B1.s.p, by rw [B1.s.pk], by rw [B1.s.pk, en]; exact vp_in_nI (by omega) (by decide), _, by rw [en, nI_clamp (by omega)]; exact pr.1, ?_⟩
    have loop : ∀ (j i : Nat) (g : PH), i + j = 200 → FrB 35 h g → BR g 35 t ct nc nf (rn D.1) (ticksC t ct (rn D.1) nf nc D.1 i) → Gm l x mX7_when 8 51 [(0, .ref 0), (1, .int r), (2, .ref 140), (3, .ref (35 + 8 + n)), (4, .int (nI i))] [] g 1 6 (hN h) (fun v h' => ∃ r_1, v = some (Value.int r_1) ∧ aWhen D.1 t ct nc nf (rn D.1) r = Sum.inl r_1 ∧ KQ h 0 0 (KZ t ct rt nc nf nr D tl tp fp I) h') (fun c h' => ∃ k, aWhen D.1 t ct nc nf (rn D.1) r = Sum.inr k ∧ c = exN k ∧ KQ h 0 0 (KZ t ct rt nc nf nr D tl tp fp I) h') := by
      intro j
      induction j with
      | zero =>
        intro i g hi p Bg
        have hi2 : i = 200 := by omega
        subst hi2
        have pg := Bg.s.pr n (by omega)
        refine vX7_when_51 ⟨fun _ => ⟨pg.2, _, rfl, ?_, K.spQ W p⟩, fun z => absurd (nI_le (Nat.le_refl _) (by decide)) z⟩
        rw [yes, (Bg.ri n hn).en]
      | succ j ih =>
        intro i g hi p Bg
        have pg := Bg.s.pr n (by omega)
        have Wi := W.2.1.w.ticks W.1.tk.1 i
        refine vX7_when_51 ⟨fun z => absurd z (nI_ge (b := 200) (by omega) (by decide)), fun _ => ⟨pg.2, fun z => ⟨_, rfl, ?_, K.spQ W p⟩, fun z => ⟨by rw [p.hK]; exact K.k0, 35, by rw [p.hR]; exact K.r3, Bg.s.k, _, k_pass (n := 1) O.n_RX1_140 W.1.tk.1 W.1.ct' Bg Wi (by decide), ?_⟩⟩⟩
        · rw [(Bg.ri n hn).wh] at z
          rw [yes, (Bg.ri n hn).en, show 200 = i + (j + 1) by omega, ticks_add, d3_ticks W.1.tk.1 Wi hn z _ 7 (by decide)]
        · rintro g2 ⟨p2, B2⟩
          rw [show nI i + 1 = nI (i + 1) from nI_add i 1]
          exact ih (i + 1) g2 (by omega) (p.trans p2) B2
    exact loop 200 0 h1 rfl p1 B1
  · rw [B.nr] at e2
    exact ⟨O.th_235, Nat.le_refl _, Nat.le_refl _, 1, ite'_f fun z => e2 (Int32.not_le.mp ((inR_iff (by omega)).mpr z).2), rfl, Kq⟩
theorem k_ticksToQuiet (O : XN x) (K : KS h t ct rt nc nf nr D tl tp fp I) : CI l x mX7_ticksToQuiet 5 0 0 [.ref 0] h (fun v h' => v = quV t ct (rn D.1) nf nc D.1 ∧ KQ h 0 0 (KZ t ct rt nc nf nr D tl tp fp I) h') := by
  obtain ⟨W, ow, fi, K⟩ := K
  refine Cm.of (by decide) (Nat.le_of_ble_eq_true rfl) (vX7_ticksToQuiet_0 ⟨K.k0, 35, K.r3, 139, K.r6, K.kd, 140, K.r0, K.b2.k, _, k_toSpare K W, ?_⟩)
  rintro h1 ⟨p1, B1⟩
  have loop : ∀ (j i : Nat) (g : PH), i + j = 200 → (∀ i', i' < i → ¬ QP t nc (rn D.1) (ticksC t ct (rn D.1) nf nc D.1 i')) → FrB 35 h g → BR g 35 t ct nc nf (rn D.1) (ticksC t ct (rn D.1) nf nc D.1 i) → Gm l x mX7_ticksToQuiet 5 16 [(0, .ref 0), (1, .int (nI i))] [] g 0 0 (hN h) (fun v h' => ∃ r, v = some (Value.int r) ∧ r = quV t ct (rn D.1) nf nc D.1 ∧ KQ h 0 0 (KZ t ct rt nc nf nr D tl tp fp I) h') (fun _ _ => False) := by
    intro j
    induction j with
    | zero =>
      intro i g hi no p Bg
      have hi2 : i = 200 := by omega
      subst hi2
      obtain ⟨⟨m, J⟩, _⟩ := id (W.2.1.w.ticks W.1.tk.1 200)
      refine vX7_ticksToQuiet_16 ⟨fun _ => ⟨by rw [p.hK]; exact K.k0, 35, by rw [p.hR]; exact K.r3, Bg.s.k, _, k_isQuiet Bg J, ?_⟩, fun z => absurd (nI_le (Nat.le_refl _) (by decide)) z⟩
      rintro v _ ⟨⟨_, hv⟩, rfl⟩
      refine ⟨_, rfl, quV_eq ?_, K.spQ W p⟩
      by_cases e : v = 0
      · rw [if_pos e]
        refine Or.inr ⟨rfl, fun i' hi' q => ?_⟩
        rcases Nat.lt_or_ge i' 200 with z | z
        · exact no i' z q
        · have : i' = 200 := by omega
          subst this
          exact hv.mpr q e
      · rw [if_neg e]
        exact Or.inl ⟨200, Nat.le_refl _, rfl, hv.mp e, no⟩
    | succ j ih =>
      intro i g hi no p Bg
      have Wi := W.2.1.w.ticks W.1.tk.1 i
      obtain ⟨⟨m, J⟩, _⟩ := id Wi
      refine vX7_ticksToQuiet_16 ⟨fun z => absurd z (nI_ge (b := 200) (by omega) (by decide)), fun _ => ⟨by rw [p.hK]; exact K.k0, 35, by rw [p.hR]; exact K.r3, Bg.s.k, _, k_isQuiet Bg J, ?_⟩⟩
      rintro v _ ⟨⟨_, hv⟩, rfl⟩
      refine ⟨fun e => ⟨by rw [p.hK]; exact K.k0, 35, by rw [p.hR]; exact K.r3, Bg.s.k, _, k_pass (n := 1) O.n_RX1_140 W.1.tk.1 W.1.ct' Bg Wi (by decide), ?_⟩, fun e => ⟨_, rfl, quV_eq (Or.inl ⟨i, by omega, rfl, hv.mp e, no⟩), K.spQ W p⟩⟩
      rintro g2 ⟨p2, B2⟩
      rw [show nI i + 1 = nI (i + 1) from nI_add i 1]
      refine ih (i + 1) g2 (by omega) (fun i' hi' q => ?_) (p.trans p2) B2
      rcases Nat.lt_or_ge i' i with z | z
      · exact no i' z q
      · have : i' = i := by omega
        subst this
        exact hv.mpr q e
  exact loop 200 0 h1 rfl (fun _ z => absurd z (Nat.not_lt_zero _)) p1 B1
theorem k_note {r tm : Int32} (K : KS h t ct rt nc nf nr D tl tp fp I) : CI l x mX7_note 1 0 0 [.ref 0, .int r, .int tm] h (fun v h' => v = (aNote nr D r tm).1 ∧ KQ h 0 0 (KZ t ct rt nc nf nr (aNote nr D r tm).2 tl tp fp I) h') := by
  obtain ⟨W, ow, fi, K⟩ := K
  have h20 := W.1.r20
  have h8 : D.2.2.1.1 ≤ 8 := W.2.1.1.2.2.2
  obtain ⟨d1, d2, d3⟩ := K.V.2.2.2.2.1
  have rf := K.rf
  have vi : vp_in 2 (hK h 176).2 := by rw [rf.2]; exact vp_in_nI (n := 2) (by decide) (by decide)
  have bad : ¬ (¬ D.2.2.1.1 = 8 ∧ inR r nr ∧ inR tm 200) → ∃ b20, hR h 139 5 = some b20 ∧ (hK h b20).1 = 100 ∧ vp_in 2 (hK h b20).2 ∧ vp_in 2 (hK h b20).2 ∧ ∃ v, some (Value.int (-1)) = some (Value.int v) ∧ v = (aNote nr D r tm).1 ∧ KQ h 0 0 (KZ t ct rt nc nf nr (aNote nr D r tm).2 tl tp fp I) (sI h b20 (Int32.toNatClampNeg 2) (hI h b20 (Int32.toNatClampNeg 2) + 1)) := fun z => by
    have e : aNote nr D r tm = (-1, dRef D 2) := ite'_f z
    rw [e]
    refine ⟨176, rf.1, by rw [rf.2], vi, vi, _, rfl, rfl, ?_⟩
    have f1 : Fr1 176 h (sI h 176 (Int32.toNatClampNeg 2) (hI h 176 (Int32.toNatClampNeg 2) + 1)) := (Fr1.refl _ _).sI _ _
    refine K.note (D' := dRef D 2) W W (f1.frx (by decide) (by decide)) (fun b h1 h2 => f1.ac (by omega)) ?_ rfl rfl
    refine ⟨by rw [f1.hI (by decide)]; exact d1, fun i hi => by rw [f1.hI (by decide), f1.hI (by decide)]; exact d2 i hi, fun i hi => ?_⟩
    show hI (sI h 176 2 (hI h 176 2 + 1)) 176 i = up D.2.2.2 2 (D.2.2.2 2 + 1) i
    by_cases z : i = 2
    · rw [z, gI, up_eq]
      exact congrArg (· + 1) (d3 2 (by decide))
    · rw [gIk _ _ _ z, up_ne z]
      exact d3 i hi
  refine Cm.of (by decide) (Nat.le_of_ble_eq_true rfl) (vX7_note_0 ⟨K.k0, 139, K.r6, K.kd, fun e => ?_, fun e => ⟨_, k_isTold K h20, ?_⟩⟩)
  · refine bad fun z => ?_
    rw [d1] at e
    exact nI_ge (a := D.2.2.1.1) (b := 8) (by omega) (by decide) e
  rintro q hh ⟨hq, eh⟩
  obtain rfl := eh.symm
  refine ⟨fun e2 => ⟨K.k0, 139, K.r6, K.kd, bad fun z => hq.mpr z.2.1 e2⟩, fun e2 => ⟨fun e3 => ⟨K.k0, 139, K.r6, K.kd, bad fun z => inR_n0 (by decide) e3 z.2.2⟩, fun e3 => ⟨fun e4 => ?_, fun e4 => ⟨K.k0, 139, K.r6, K.kd, bad fun z => e4 (Int32.not_le.mp ((inR_iff (by decide)).mpr z.2.2).2)⟩⟩⟩⟩
  rw [d1] at e
  have l8 : D.2.2.1.1 < 8 := Nat.lt_of_not_le fun z => e (nI_le (a := 8) z (by omega))
  have ok : ¬ D.2.2.1.1 = 8 ∧ inR r nr ∧ inR tm 200 := ⟨by omega, hq.mp e2, (inR_iff (by decide)).mp ⟨e3, Int32.not_le.mpr e4⟩⟩
  have ea : aNote nr D r tm = (nI (D.2.2.1.1 + 1), (D.1, D.2.1, (D.2.2.1.1 + 1, up D.2.2.1.2.1 D.2.2.1.1 r, up D.2.2.1.2.2 D.2.2.1.1 tm), D.2.2.2)) := ite'_t ok
  rw [ea]
  obtain ⟨v1, _⟩ := K.V
  have i0 : hI (sI h 174 (hI h 139 4).toNatClampNeg r) 139 4 = nI D.2.2.1.1 := by rw [gIa _ _ _ _ (by decide)]; exact d1
  have c0 : (nI D.2.2.1.1).toNatClampNeg = D.2.2.1.1 := nI_clamp (by omega)
  refine ⟨K.k0, 139, K.r6, K.kd, 174, v1.2.2.2.1, by rw [v1.2.2.2.2.1], by rw [v1.2.2.2.2.1, d1]; exact vp_in_nI l8 (by decide), 175, v1.2.2.2.2.2.1, by rw [v1.2.2.2.2.2.2.1], by rw [v1.2.2.2.2.2.2.1, i0]; exact vp_in_nI l8 (by decide), _, rfl, ?_, ?_⟩
  · rw [gI, gIa _ _ _ _ (by decide), i0]
    exact nI_add _ 1
  · have W' : SO t ct rt nc nf nr (D.1, D.2.1, (D.2.2.1.1 + 1, up D.2.2.1.2.1 D.2.2.1.1 r, up D.2.2.1.2.2 D.2.2.1.1 tm), D.2.2.2) I := by
      refine ⟨W.1, ⟨⟨W.2.1.1.1, W.2.1.1.2.1, W.2.1.1.2.2.1, l8⟩, fun i hi => ?_, W.2.1.2.2.1, W.2.1.2.2.2.1, W.2.1.2.2.2.2⟩, W.2.2⟩
      show inR (up D.2.2.1.2.1 D.2.2.1.1 r i) nr
      by_cases z : i = D.2.2.1.1
      · rw [z, up_eq]; exact ok.2.1
      · rw [up_ne z]
        have hi2 : i < D.2.2.1.1 + 1 := hi
        exact W.2.1.2.1 i (by omega)
    have fx : FrX 139 177 h (sI (sI (sI h 174 (hI h 139 4).toNatClampNeg r) 175 (hI (sI h 174 (hI h 139 4).toNatClampNeg r) 139 4).toNatClampNeg tm) 139 4 (hI (sI (sI h 174 (hI h 139 4).toNatClampNeg r) 175 (hI (sI h 174 (hI h 139 4).toNatClampNeg r) 139 4).toNatClampNeg tm) 139 4 + 1)) := ((((Fr1.refl 174 h).sI _ _).frx (by decide) (by decide)).trans (((Fr1.refl 175 _).sI _ _).frx (by decide) (by decide))).trans (((Fr1.refl 139 _).sI _ _).frx (by decide) (by decide))
    refine K.note W W' fx (fun b q1 q2 => ((sI_Ac (by omega)).trans (sI_Ac (by omega))).trans (sI_Ac (by omega))) ⟨?_, fun i hi => ⟨?_, ?_⟩, fun i hi => ?_⟩ rfl rfl
    · rw [gI, gIa _ _ _ _ (by decide), i0]
      exact nI_add _ 1
    · rw [d1, c0]
      show hI (sI (sI (sI h 174 D.2.2.1.1 r) 175 _ tm) 139 4 _) 174 i = up D.2.2.1.2.1 D.2.2.1.1 r i
      rw [gIa _ _ _ _ (by decide), gIa _ _ _ _ (by decide)]
      by_cases z : i = D.2.2.1.1
      · rw [z, gI, up_eq]
      · rw [gIk _ _ _ z, up_ne z]
        have hi2 : i < D.2.2.1.1 + 1 := hi
        exact (d2 i (by omega)).1
    · rw [i0, c0]
      show hI (sI (sI (sI h 174 _ r) 175 D.2.2.1.1 tm) 139 4 _) 175 i = up D.2.2.1.2.2 D.2.2.1.1 tm i
      rw [gIa _ _ _ _ (by decide)]
      by_cases z : i = D.2.2.1.1
      · rw [z, gI, up_eq]
      · rw [gIk _ _ _ z, up_ne z, gIa _ _ _ _ (by decide)]
        have hi2 : i < D.2.2.1.1 + 1 := hi
        exact (d2 i (by omega)).2
    · show hI (sI (sI (sI h 174 _ r) 175 _ tm) 139 4 _) 176 i = D.2.2.2 i
      rw [gIa _ _ _ _ (by decide), gIa _ _ _ _ (by decide), gIa _ _ _ _ (by decide)]
      exact d3 i hi
end Face2
