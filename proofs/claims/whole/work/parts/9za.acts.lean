/-! THE CLASS'S FACE: ticks, come, out, fire, rule, undo -/
section FaceA
variable {l : Launch} {x : CX} {h h' : PH} {nc nf nr fi fi' tl a b : Nat} {t ct rt tp : Nat → Int32} {ow ow' : Nat → Nat} {D D' : DT} {fp : Int32} {I : Option DT} {S : Nat → Prop} {F : Nat → Int32}
def CQ (l : Launch) (x : CX) (M : MD) (d : Nat) (a : List Value) (h : PH) (t ct rt : Nat → Int32) (nc nf nr : Nat) (A : Int32 × DT) (tl : Nat) (tp : Nat → Int32) (fp : Int32) (I : Option DT) : Prop := ∃ mc ms, mc ≤ pot 32 38 h ∧ ms ≤ pot 359 427 h ∧ CI l x M d mc ms a h (fun v h' => v = A.1 ∧ KQ h mc ms (KZ t ct rt nc nf nr A.2 tl tp fp I) h')
theorem SO.keep (W : SO t ct rt nc nf nr D I) (WF : Row ct nc nf (rn F) F) (LF : LT3 F) : SO t ct rt nc nf nr (dKeep D F) I := by
  obtain ⟨w1, ⟨⟨w2, w3, w4, w5⟩, w6, w7, w8, w9⟩, w10⟩ := W
  have hk : ∀ i, i < kaN D.2.1.1 → (∃ j, j < D.2.1.1 ∧ kaA D.2.1.1 D.2.1.2 D.1 i = D.2.1.2 j) ∨ kaA D.2.1.1 D.2.1.2 D.1 i = D.1 := fun i hi => by
    unfold kaA
    unfold kaN at hi
    by_cases z : D.2.1.1 = 40
    · rw [if_pos z] at hi ⊢
      by_cases y : i < 39
      · rw [if_pos y]; exact Or.inl ⟨i + 1, by omega, rfl⟩
      · rw [if_neg y]; exact Or.inr rfl
    · rw [if_neg z] at hi ⊢
      by_cases y : i < D.2.1.1
      · rw [if_pos y]; exact Or.inl ⟨i, y, rfl⟩
      · rw [if_neg y]; exact Or.inr rfl
  refine ⟨w1, ⟨⟨w2, WF, fun i hi => ?_, w5⟩, w6, LF, fun i hi => ?_, ?_⟩, w10⟩
  · show Row ct nc nf (rn (kaA D.2.1.1 D.2.1.2 D.1 i)) (kaA D.2.1.1 D.2.1.2 D.1 i)
    rcases hk i hi with ⟨j, hj, e⟩ | e
    · rw [e]; exact w4 j hj
    · rw [e]; exact w3
  · show LT3 (kaA D.2.1.1 D.2.1.2 D.1 i)
    rcases hk i hi with ⟨j, hj, e⟩ | e
    · rw [e]; exact w8 j hj
    · rw [e]; exact w7
  · show kaN D.2.1.1 ≤ 40
    unfold kaN
    split <;> omega
/-- what is done behind keep -/
theorem KQ.acted {h1 h2 : PH} {mc ms : Nat} (W : SO t ct rt nc nf nr D I) (q : KQ h mc ms (fun g => ∃ ow' fi', KO g ow' fi' t ct rt nc nf nr (dKeep D D.1) tl tp fp I) h1) (WF : Row ct nc nf (rn F) F) (LF : LT3 F) (p : FrB 140 h1 h2) (B : BR h2 140 t ct nc nf (rn F) F) : KQ h mc ms (KZ t ct rt nc nf nr (dKeep D F) tl tp fp I) h2 := by
  obtain ⟨ow', fi', K1⟩ := q.1
  exact q.trans (K1.now (F := F) (W.keep W.2.1.w W.2.1.2.2.1) (W.keep WF LF) p B)
theorem k_ticks {n : Int32} (O : XN x) (K : KS h t ct rt nc nf nr D tl tp fp I) : CQ l x mX7_ticks 5 [.ref 0, .int n] h t ct rt nc nf nr (aTicks t ct nc nf D n) tl tp fp I := by
  have Kr := K
  obtain ⟨W, ow, fi, K⟩ := K
  have B := K.B
  by_cases ok : (inR n 61 ∧ ¬ n = 0) ∧ D.1 0 + n ≤ 999
  · rw [show aTicks t ct nc nf D n = (ticksC t ct (rn D.1) nf nc D.1 n.toNatClampNeg 0, dKeep D (ticksC t ct (rn D.1) nf nc D.1 n.toNatClampNeg)) from ite'_t ok]
    obtain ⟨mc, ms, m1, m2, C⟩ := k_keepD (l := l) O K W
    obtain ⟨N, hN1, rfl⟩ := ok.1.1
    have i60 := (n60 (v := nI N)).mpr ok.1
    rw [nI_clamp (by omega)]
    refine ⟨mc, ms, m1, m2, Cm.of (by decide) (Nat.le_of_ble_eq_true rfl) (vX7_ticks_0 ⟨K.k0, 139, K.r6, K.kd, 140, K.r0, fun e => absurd (if_pos e) i60, fun e => ⟨fun e2 => absurd ((if_neg e).trans (if_pos e2)) i60, fun e2 => ⟨B.s.k, fun e3 => ⟨172, K.ra, K.V.1.a.1, mc, ms, _, Nat.le_refl _, Nat.le_refl _, C, ?_⟩, fun e3 => absurd (by rw [B.ti]; exact ok.2) e3⟩⟩⟩)⟩
    rintro h1 q1
    obtain ⟨ow', fi', K1⟩ := id q1.1
    have B1 : BR h1 140 t ct nc nf (rn D.1) D.1 := K1.B
    have Wt := W.2.1.w.ticks W.1.tk.1 N
    refine ⟨B1.s.k, _, k_pass O.n_RX1_140 W.1.tk.1 W.1.ct' B1 W.2.1.w (by omega), ?_⟩
    rintro h2 ⟨p2, B2⟩
    refine ⟨B2.s.k, _, rfl, B2.ti, KQ.acted W q1 (by rw [Wt.rnE]; exact Wt) ?_ p2 (by rw [Wt.rnE]; exact B2)⟩
    obtain ⟨y, e1, e2⟩ := W.2.1.2.2.1
    exact ⟨y, by rw [l3_ticks W.2.1.w.r24 W.1.c4]; exact e1, e2⟩
  · rw [show aTicks t ct nc nf D n = (-1, dRef D 1) from ite'_f ok]
    have ref : ∃ q8 : Int32 → PH → Prop, CI l x mX7_refuseAct 0 0 0 [.ref 0] h q8 ∧ ∀ (r : Int32) (h1 : PH), q8 r h1 → ∃ r_1, some (Value.int r) = some (Value.int r_1) ∧ r_1 = -1 ∧ KQ h 0 0 (KZ t ct rt nc nf nr (dRef D 1) tl tp fp I) h1 := ⟨_, k_refuse Kr, by rintro _ h1 ⟨rfl, q⟩; exact ⟨_, rfl, rfl, q⟩⟩
    refine ⟨0, 0, Nat.zero_le _, Nat.zero_le _, Cm.of (by decide) (Nat.le_of_ble_eq_true rfl) (vX7_ticks_0 ⟨K.k0, 139, K.r6, K.kd, 140, K.r0, fun e => ref, fun e => ⟨fun e2 => ref, fun e2 => ⟨B.s.k, fun e3 => absurd ⟨n60.mp (by rw [if_neg e, if_neg e2]; decide), by rw [B.ti] at e3; exact e3⟩ ok, fun e3 => ref⟩⟩⟩)⟩
theorem k_come {a b s : Int32} (O : XN x) (K : KS h t ct rt nc nf nr D tl tp fp I) : CQ l x mX7_come 5 [.ref 0, .int a, .int b, .int s] h t ct rt nc nf nr (aCome nf D a b s) tl tp fp I := by
  have Kr := K
  obtain ⟨W, ow, fi, K⟩ := K
  have B := K.B
  have f12 := W.1.f12
  have h24 := W.2.1.w.r24
  by_cases ok : inR a nf ∧ inR b nf ∧ ¬ a = b ∧ (s = 1 ∨ s = 2) ∧ ¬ rn D.1 = 24
  · rw [show aCome nf D a b s = (nI (rn D.1), dKeep D (cwF D.1 (rn D.1) a b s)) from ite'_t ok]
    obtain ⟨mc, ms, m1, m2, C⟩ := k_keepD (l := l) O K W
    refine ⟨mc, ms, m1, m2, Cm.of (by decide) (Nat.le_of_ble_eq_true rfl) (vX7_come_0 ⟨K.k0, 139, K.r6, K.kd, 140, K.r0, B.s.k, _, k_hasFloor B.s.k B.fl (by omega), ?_⟩)⟩
    rintro r1 _ ⟨i1, rfl⟩
    refine ⟨fun e => absurd e (i1.mpr ok.1), fun e => ⟨B.s.k, _, k_hasFloor B.s.k B.fl (by omega), ?_⟩⟩
    rintro r2 _ ⟨i2, rfl⟩
    rintro y ey
    rw [if_neg (i2.mpr ok.2.1), if_neg ok.2.2.1] at ey
    refine ⟨fun e2 => absurd (ey.symm.trans e2) (by decide), fun e2 => ⟨_, k_isSort, ?_⟩⟩
    rintro r3 _ ⟨i3, rfl⟩
    refine ⟨fun e3 => absurd e3 (i3.mpr ok.2.2.2.1), fun e3 => ⟨B.s.k, fun e4 => ⟨K.k0, 139, K.r6, K.kd, 172, K.ra, K.V.1.a.1, mc, ms, _, Nat.le_refl _, Nat.le_refl _, C, ?_⟩, fun e4 => absurd (by rw [B.nr]; exact nI_lt (b := 24) (by omega) (by decide)) e4⟩⟩
    rintro h1 q1
    obtain ⟨ow', fi', K1⟩ := id q1.1
    have B1 : BR h1 140 t ct nc nf (rn D.1) D.1 := K1.B
    obtain ⟨A, hA, eA⟩ := ok.1
    obtain ⟨Bn, hB, eB⟩ := ok.2.1
    refine ⟨B1.s.k, _, k_addByHand B1 W.2.1.w (by omega) ok.2.2.2.1 eA hA eB hB, ?_⟩
    rintro _ h2 ⟨rfl, p2, B2⟩
    have Wc := Row_cw W.2.1.w (by omega) ok.2.2.2.1 eA hA eB hB
    refine ⟨_, rfl, rfl, KQ.acted W q1 (by rw [Wc.rnE]; exact Wc) ?_ p2 (by rw [Wc.rnE]; exact B2)⟩
    obtain ⟨y, e1, e2⟩ := W.2.1.2.2.1
    exact ⟨y, by rw [l3_cw]; exact e1, e2⟩
  · rw [show aCome nf D a b s = (-1, dRef D 1) from ite'_f ok]
    have ref : ∃ q8 : Int32 → PH → Prop, CI l x mX7_refuseAct 0 0 0 [.ref 0] h q8 ∧ ∀ (r : Int32) (h1 : PH), q8 r h1 → ∃ r_1, some (Value.int r) = some (Value.int r_1) ∧ r_1 = -1 ∧ KQ h 0 0 (KZ t ct rt nc nf nr (dRef D 1) tl tp fp I) h1 := ⟨_, k_refuse Kr, by rintro _ h1 ⟨rfl, q⟩; exact ⟨_, rfl, rfl, q⟩⟩
    refine ⟨0, 0, Nat.zero_le _, Nat.zero_le _, Cm.of (by decide) (Nat.le_of_ble_eq_true rfl) (vX7_come_0 ⟨K.k0, 139, K.r6, K.kd, 140, K.r0, B.s.k, _, k_hasFloor B.s.k B.fl (by omega), ?_⟩)⟩
    rintro r1 _ ⟨i1, rfl⟩
    refine ⟨fun e => ⟨K.k0, ref⟩, fun e => ⟨B.s.k, _, k_hasFloor B.s.k B.fl (by omega), ?_⟩⟩
    rintro r2 _ ⟨i2, rfl⟩
    rintro y ey
    refine ⟨fun e2 => ⟨K.k0, ref⟩, fun e2 => ⟨_, k_isSort, ?_⟩⟩
    rintro r3 _ ⟨i3, rfl⟩
    refine ⟨fun e3 => ⟨K.k0, ref⟩, fun e3 => ⟨B.s.k, fun e4 => ?_, fun e4 => ⟨K.k0, ref⟩⟩⟩
    refine absurd ⟨i1.mp e, ?_, ?_, i3.mp e3, ?_⟩ ok
    · refine i2.mp fun z => e2 ?_
      rw [ey, if_pos z]
    · intro z
      refine e2 ?_
      rw [ey, if_pos z]
      split <;> rfl
    · rw [B.nr] at e4
      intro z
      rw [z] at e4
      exact absurd e4 (by decide)
theorem k_out {c u : Int32} (O : XN x) (hu : u = 0 ∨ u = 1) (K : KS h t ct rt nc nf nr D tl tp fp I) : CQ l x mX7_out 5 [.ref 0, .int c, .int u] h t ct rt nc nf nr (aOut nc D c u) tl tp fp I := by
  have Kr := K
  obtain ⟨W, ow, fi, K⟩ := K
  have B := K.B
  have hC := W.1.c4
  have h24 := W.2.1.w.r24
  obtain ⟨⟨m, J⟩, G, _⟩ := id W.2.1.w
  by_cases ok : inR c nc ∧ ¬ D.1 (16 + 8 * c.toNatClampNeg + 4) = (if u = 0 then 1 else 0)
  · rw [show aOut nc D c u = (1, dKeep D (if u = 0 then up D.1 (16 + 8 * c.toNatClampNeg + 4) 1 else otF D.1 c.toNatClampNeg (rn D.1))) from ite'_t ok]
    obtain ⟨mc, ms, m1, m2, C⟩ := k_keepD (l := l) O K W
    have rg := (inR_iff (by omega)).mpr ok.1
    obtain ⟨cn, hcn, rfl⟩ := ok.1
    rw [nI_clamp (by omega)]
    have cI := J.cars cn hcn
    have pr := B.s.lc cn (by omega)
    have iu : hI h (140 + 4 + cn) 6 = u := by
      rw [(B.ca cn hcn).1.inn]
      have := ok.2
      rw [nI_clamp (by omega)] at this
      rcases hu with z | z
      · rw [z, if_pos rfl] at this
        rcases cI.inn with y | y
        · rw [y, z]
        · exact absurd y this
      · rw [z, if_neg (by decide)] at this
        rcases cI.inn with y | y
        · exact absurd y this
        · rw [y, z]
    refine ⟨mc, ms, m1, m2, Cm.of (by decide) (Nat.le_of_ble_eq_true rfl) (vX7_out_0 ⟨K.k0, 139, K.r6, K.kd, 140, K.r0, fun e => absurd e rg.1, fun e => ⟨B.s.k, fun e2 => absurd (by rw [B.nc] at e2; exact e2) rg.2, fun e2 => ⟨_, B.s.l, by rw [B.s.lk], by rw [B.s.lk]; exact vp_in_nI (by omega) (by decide), _, by rw [nI_clamp (by omega)]; exact pr.1, pr.2, fun e3 => ⟨172, K.ra, K.V.1.a.1, mc, ms, _, Nat.le_refl _, Nat.le_refl _, C, ?_⟩, fun e3 => absurd iu e3⟩⟩⟩)⟩
    rintro h1 q1
    obtain ⟨ow', fi', K1⟩ := id q1.1
    have B1 : BR h1 140 t ct nc nf (rn D.1) D.1 := K1.B
    obtain ⟨y, y1, y2⟩ := W.2.1.2.2.1
    refine ⟨fun e4 => ?_, fun e4 => ⟨B1.s.k, _, k_putOutOfService B1 J hcn, ?_⟩⟩
    · rw [if_pos e4]
      have pr1 := B1.s.lc cn (by omega)
      have Wu := W.2.1.w.inn (v := 1) hcn (Or.inr rfl)
      refine ⟨B1.s.k, _, B1.s.l, by rw [B1.s.lk], by rw [B1.s.lk]; exact vp_in_nI (by omega) (by decide), _, by rw [nI_clamp (by omega)]; exact pr1.1, pr1.2, Or.inr rfl, _, rfl, rfl, KQ.acted W q1 (by rw [Wu.rnE]; exact Wu) ⟨y, by rw [up_ne (by omega)]; exact y1, y2⟩ (((Fr1.refl (140 + 4 + cn) h1).sI 6 1).frb (by omega) (by omega)) (by rw [Wu.rnE]; exact B1.setC (k := 6) (j := 4) hC h24 hcn (Or.inr (Or.inr (Or.inr ⟨rfl, rfl⟩))))⟩
    · rw [if_neg e4]
      rintro h2 ⟨p2, B2⟩
      have Wu : Row ct nc nf (rn D.1) (otF D.1 cn (rn D.1)) := Row_ot W.2.1.w hcn
      exact ⟨Or.inr rfl, _, rfl, rfl, KQ.acted W q1 (by rw [Wu.rnE]; exact Wu) ⟨y, by rw [l3_ot (by omega)]; exact y1, y2⟩ p2 (by rw [Wu.rnE]; exact B2)⟩
  · rw [show aOut nc D c u = (0, dRef D 1) from ite'_f ok]
    have ref : ∃ q8 : Int32 → PH → Prop, CI l x mX7_refuseAct 0 0 0 [.ref 0] h q8 ∧ ∀ (r : Int32) (h1 : PH), q8 r h1 → ((0 : Int32) = 0 ∨ (0 : Int32) = 1) ∧ ∃ r_1, some (Value.int 0) = some (Value.int r_1) ∧ r_1 = 0 ∧ KQ h 0 0 (KZ t ct rt nc nf nr (dRef D 1) tl tp fp I) h1 := ⟨_, k_refuse Kr, by rintro _ h1 ⟨rfl, q⟩; exact ⟨Or.inl rfl, _, rfl, rfl, q⟩⟩
    refine ⟨0, 0, Nat.zero_le _, Nat.zero_le _, Cm.of (by decide) (Nat.le_of_ble_eq_true rfl) (vX7_out_0 ⟨K.k0, 139, K.r6, K.kd, 140, K.r0, fun e => ref, fun e => ⟨B.s.k, fun e2 => ref, fun e2 => ?_⟩⟩)⟩
    rw [B.nc] at e2
    have ic := (inR_iff (by omega)).mp ⟨e, e2⟩
    obtain ⟨cn, hcn, rfl⟩ := id ic
    have cI := J.cars cn hcn
    have pr := B.s.lc cn (by omega)
    refine ⟨_, B.s.l, by rw [B.s.lk], by rw [B.s.lk]; exact vp_in_nI (by omega) (by decide), _, by rw [nI_clamp (by omega)]; exact pr.1, pr.2, fun e3 => absurd ⟨ic, fun z => ?_⟩ ok, fun e3 => ref⟩
    rw [(B.ca cn hcn).1.inn] at e3
    rw [nI_clamp (by omega), e3] at z
    rcases hu with y | y
    · rw [y, if_pos rfl] at z; exact absurd z (by decide)
    · rw [y, if_neg (by decide)] at z; exact absurd z (by decide)
theorem k_fire {u : Int32} (O : XN x) (hu : u = 0 ∨ u = 1) (K : KS h t ct rt nc nf nr D tl tp fp I) : CQ l x mX7_fire 5 [.ref 0, .int u] h t ct rt nc nf nr (aFire D u) tl tp fp I := by
  have Kr := K
  obtain ⟨W, ow, fi, K⟩ := K
  have B := K.B
  have g1 := W.2.1.w.2.1.1
  have e1 : (if D.1 1 = 1 then 1 else 0 : Int32) = D.1 1 := by
    rcases g1 with z | z
    · rw [z, if_neg (by decide)]
    · rw [z, if_pos rfl]
  by_cases ok : ¬ (if D.1 1 = 1 then 1 else 0 : Int32) = u
  · rw [show aFire D u = (1, dKeep D (up D.1 1 (if u = 0 then 0 else 1))) from ite'_t ok]
    obtain ⟨mc, ms, m1, m2, C⟩ := k_keepD (l := l) O K W
    have e2 : (if u = 0 then 0 else 1 : Int32) = u := by
      rcases hu with z | z
      · rw [z, if_pos rfl]
      · rw [z, if_neg (by decide)]
    rw [e1] at ok
    rw [e2]
    refine ⟨mc, ms, m1, m2, Cm.of (by decide) (Nat.le_of_ble_eq_true rfl) (vX7_fire_0 ⟨K.k0, 139, K.r6, K.kd, 140, K.r0, B.s.k, fun e => ⟨172, K.ra, K.V.1.a.1, mc, ms, _, Nat.le_refl _, Nat.le_refl _, C, ?_⟩, fun e => absurd (by rw [B.bu] at e; exact e) ok⟩)⟩
    rintro h1 q1
    obtain ⟨ow', fi', K1⟩ := id q1.1
    have B1 : BR h1 140 t ct nc nf (rn D.1) D.1 := K1.B
    obtain ⟨y, y1, y2⟩ := W.2.1.2.2.1
    have Wu := W.2.1.w.fir hu
    exact ⟨B1.s.k, hu, Or.inr rfl, _, rfl, rfl, KQ.acted W q1 (by rw [Wu.rnE]; exact Wu) ⟨y, by rw [up_ne (by decide)]; exact y1, y2⟩ (((Fr1.refl 140 h1).sI 8 u).frb (by decide) (by decide)) (by rw [Wu.rnE]; exact B1.setB (k := 8) (j := 1) W.1.c4 W.2.1.w.r24 (Or.inr (Or.inr ⟨rfl, rfl⟩)))⟩
  · rw [show aFire D u = (0, dRef D 1) from ite'_f ok]
    have e3 : D.1 1 = u := e1.symm.trans (Classical.not_not.mp ok)
    refine ⟨0, 0, Nat.zero_le _, Nat.zero_le _, Cm.of (by decide) (Nat.le_of_ble_eq_true rfl) (vX7_fire_0 ⟨K.k0, 139, K.r6, K.kd, 140, K.r0, B.s.k, fun e => absurd (B.bu.trans e3) e, fun e => ⟨_, k_refuse Kr, ?_⟩⟩)⟩
    rintro _ h1 ⟨rfl, q⟩
    exact ⟨Or.inl rfl, _, rfl, rfl, q⟩
theorem k_rule {k v : Int32} (O : XN x) (K : KS h t ct rt nc nf nr D tl tp fp I) : CQ l x mX7_rule 5 [.ref 0, .int k, .int v] h t ct rt nc nf nr (aRule D k v) tl tp fp I := by
  have Kr := K
  obtain ⟨W, ow, fi, K⟩ := K
  have B := K.B
  have hC := W.1.c4
  have h24 := W.2.1.w.r24
  have i3 : ∀ n : Nat, n < 2 ^ 31 → ((¬ (if v < 0 then 0 else (if nI n ≤ v then 0 else 1 : Int32) : Int32) = 0) ↔ inR v n) := fun n hn => by
    rw [← inR_iff hn]
    by_cases h0 : v < 0
    · rw [if_pos h0]; exact ⟨fun z => absurd rfl z, fun z => absurd h0 z.1⟩
    · rw [if_neg h0]
      by_cases h1 : nI n ≤ v
      · rw [if_pos h1]; exact ⟨fun z => absurd rfl z, fun z => absurd h1 z.2⟩
      · rw [if_neg h1]; exact ⟨fun _ => ⟨h0, h1⟩, fun _ => by decide⟩
  have j3 := i3 3 (by decide)
  have j12 := i3 12 (by decide)
  by_cases ok0 : k = 0 ∧ inR v 3
  · have e : aRule D k v = (D.1 2, dKeep D (up D.1 2 v)) := by
      unfold aRule
      rw [ite'_t (Or.inl ok0), ok0.1]
      rfl
    rw [e]
    obtain ⟨mc, ms, m1, m2, C⟩ := k_keepD (l := l) O K W
    refine ⟨mc, ms, m1, m2, Cm.of (by decide) (Nat.le_of_ble_eq_true rfl) (vX7_rule_0 ⟨K.k0, 139, K.r6, K.kd, 140, K.r0, ?_⟩)⟩
    rintro y10 e10 y15 e15
    have n10 : ¬ y10 = 0 := by rw [e10, if_pos ok0.1]; exact j3.mpr ok0.2
    refine ⟨fun _ => ⟨172, K.ra, K.V.1.a.1, mc, ms, _, Nat.le_refl _, Nat.le_refl _, C, ?_⟩, fun z => absurd z n10⟩
    rintro h1 q1
    obtain ⟨ow', fi', K1⟩ := id q1.1
    have B1 : BR h1 140 t ct nc nf (rn D.1) D.1 := K1.B
    obtain ⟨y, y1, y2⟩ := W.2.1.2.2.1
    have Wu := W.2.1.w.pol (inR3 ok0.2)
    refine ⟨fun z => absurd z n10, fun _ => ⟨B1.s.k, fun z => absurd z n10, fun _ => ⟨_, rfl, B1.po, KQ.acted W q1 (by rw [Wu.rnE]; exact Wu) ⟨y, by rw [up_ne (by decide)]; exact y1, y2⟩ (((Fr1.refl 140 h1).sI 5 v).frb (by decide) (by decide)) (by rw [Wu.rnE]; exact B1.setB (k := 5) (j := 2) hC h24 (Or.inl ⟨rfl, rfl⟩))⟩⟩⟩
  by_cases ok1 : k = 1 ∧ inR v 12
  · have e : aRule D k v = (D.1 3, dKeep D (up D.1 3 v)) := by
      unfold aRule
      rw [ite'_t (Or.inr ok1), ok1.1]
      rfl
    rw [e]
    obtain ⟨mc, ms, m1, m2, C⟩ := k_keepD (l := l) O K W
    refine ⟨mc, ms, m1, m2, Cm.of (by decide) (Nat.le_of_ble_eq_true rfl) (vX7_rule_0 ⟨K.k0, 139, K.r6, K.kd, 140, K.r0, ?_⟩)⟩
    rintro y10 e10 y15 e15
    have n10 : y10 = 0 := by rw [e10, if_neg (by rw [ok1.1]; decide)]
    have n15 : ¬ y15 = 0 := by rw [e15, if_pos ok1.1]; exact j12.mpr ok1.2
    refine ⟨fun z => absurd n10 z, fun _ => ⟨fun _ => ⟨172, K.ra, K.V.1.a.1, mc, ms, _, Nat.le_refl _, Nat.le_refl _, C, ?_⟩, fun z => absurd z n15⟩⟩
    rintro h1 q1
    obtain ⟨ow', fi', K1⟩ := id q1.1
    have B1 : BR h1 140 t ct nc nf (rn D.1) D.1 := K1.B
    have Wu := W.2.1.w.lat (v := v)
    obtain ⟨V, hV, eV⟩ := ok1.2
    refine ⟨fun _ => ⟨B1.s.k, fun _ => ⟨_, rfl, B1.la, KQ.acted W q1 (by rw [Wu.rnE]; exact Wu) ⟨V, by rw [up_eq]; exact eV, hV⟩ (((Fr1.refl 140 h1).sI 4 v).frb (by decide) (by decide)) (by rw [Wu.rnE]; exact B1.setB (k := 4) (j := 3) hC h24 (Or.inr (Or.inl ⟨rfl, rfl⟩)))⟩, fun z => absurd n10 z⟩, fun z => absurd n10 z⟩
  · rw [show aRule D k v = (-1, dRef D 1) from ite'_f fun z => z.elim ok0 ok1]
    refine ⟨0, 0, Nat.zero_le _, Nat.zero_le _, Cm.of (by decide) (Nat.le_of_ble_eq_true rfl) (vX7_rule_0 ⟨K.k0, 139, K.r6, K.kd, 140, K.r0, ?_⟩)⟩
    rintro y10 e10 y15 e15
    have n10 : y10 = 0 := by
      rw [e10]
      by_cases z : k = 0
      · rw [if_pos z]; exact Classical.byContradiction fun q => ok0 ⟨z, j3.mp q⟩
      · rw [if_neg z]
    have n15 : y15 = 0 := by
      rw [e15]
      by_cases z : k = 1
      · rw [if_pos z]; exact Classical.byContradiction fun q => ok1 ⟨z, j12.mp q⟩
      · rw [if_neg z]
    refine ⟨fun z => absurd n10 z, fun _ => ⟨fun z => absurd n15 z, fun _ => ⟨_, k_refuse Kr, ?_⟩⟩⟩
    rintro _ h1 ⟨rfl, q⟩
    exact ⟨_, rfl, rfl, q⟩
theorem k_undo (O : XN x) (K : KS h t ct rt nc nf nr D tl tp fp I) : CQ l x mX7_undo 5 [.ref 0] h t ct rt nc nf nr (aUndo D) tl tp fp I := by
  have Kq : KQ h 0 0 (KZ t ct rt nc nf nr D tl tp fp I) h := KQ.refl K
  obtain ⟨W, ow, fi, K⟩ := K
  have k6 := K.2.2.2.2.2.1
  obtain ⟨v1, v2, v3, v4, v5, v6⟩ := id K.V
  refine ⟨0, 0, Nat.zero_le _, Nat.zero_le _, Cm.of (by decide) (Nat.le_of_ble_eq_true rfl) (vX7_undo_0 ⟨K.k0, 139, K.r6, K.kd, 172, K.ra, 140, K.r0, v1.a.1, 0, 0, _, Nat.le_refl _, Nat.le_refl _, k_takeBack O v1.a v2 v3 W.1.c4 W.2.1.1.2.2.1 v1.b v6, ?_⟩)⟩
  rintro v h1 (⟨n0, ev, eh⟩ | ⟨n0, ev, p1, B1, a1, o1, r1⟩)
  · refine ⟨fun _ => ⟨_, rfl, ?_, ?_⟩, fun z => absurd ev z⟩
    · unfold aUndo; rw [if_pos n0]
    · unfold aUndo; rw [if_pos n0, eh]; exact Kq
  · have f0 : Fr1 172 h (sI h 172 2 (nI (D.2.1.1 - 1))) := (Fr1.refl _ _).sI _ _
    have x1 : FrX 139 177 h h1 := (f0.frx (by decide) (by decide)).trans (p1.frx (by decide) (by decide))
    have A : ∀ b, b ≠ 172 → (b < 140 ∨ 172 ≤ b) → Ac b h h1 := fun b q1 q2 => (f0.ac q1).trans (p1.ac (by omega))
    have ea : aUndo D = (nI (D.2.1.1 - 1), (D.2.1.2 (D.2.1.1 - 1), (D.2.1.1 - 1, D.2.1.2), D.2.2.1, D.2.2.2)) := by unfold aUndo; rw [if_neg (by omega)]
    rw [ea]
    refine ⟨fun z => absurd (ev.symm.trans z) (by decide), fun _ => ⟨by rw [x1.hK]; exact K.k0, 139, by rw [x1.hR]; exact K.r6, by rw [x1.hK]; exact K.kd, 172, by rw [x1.hR]; exact K.ra, a1.1, _, rfl, r1.2.2.1, ?_⟩⟩
    refine K.dk (fi' := fi) W ⟨W.1, ⟨⟨W.2.1.1.1, W.2.1.1.2.2.1 _ (by omega), fun i hi => W.2.1.1.2.2.1 i (by have : i < D.2.1.1 - 1 := hi; omega), W.2.1.1.2.2.2⟩, W.2.1.2.1, W.2.1.2.2.2.1 _ (by omega), fun i hi => W.2.1.2.2.2.1 i (by have : i < D.2.1.1 - 1 := hi; omega), by have := W.2.1.2.2.2.2; show D.2.1.1 - 1 ≤ 40; omega⟩, W.2.2⟩ x1 ⟨v1.frx x1, o1, r1, B1, ?_, v6⟩
    exact DN.ac (D := D) v5 (A 139 (by decide) (by decide)).hI (A (139 + 35) (by decide) (by decide)).hI (A (139 + 36) (by decide) (by decide)).hI (A (139 + 37) (by decide) (by decide)).hI
end FaceA
