/-! THE CLASS READS A TEXT: a rider; settings -/
section RidK
variable {l : Launch} {x : CX} {g h h' : PH} {tp : Nat → Int32} {n b cl : Nat} {td : Int32} {s : ST} {d : PD} {q : Int32 × Nat} {r : PR} {x1 x2 x3 x4 : Int32}
theorem chR {s0 : ST} {r9 r14 r19 : Int32} (hw : tkK tp n b = 1) (C : (∃ q, s0 = .inl q ∧ clRid tp n d b = .inl q) ∨ (s0 = .inr (d, cl, b) ∧ d.2.2.2.2.2 < 20)) (V1 : VL tp n (nuS tp n 0 99 s0) r9) (V2 : VL tp n (foS tp n (nuS tp n 0 99 s0)) r14) (V3 : VL tp n (foS tp n (foS tp n (nuS tp n 0 99 s0))) r19) : (∃ q, foS tp n (foS tp n (nuS tp n 0 99 s0)) = .inl q ∧ clRid tp n d b = .inl q) ∨ ∃ tm f k b3, foS tp n (foS tp n (nuS tp n 0 99 s0)) = .inr (d, cl, b3) ∧ r9 = nI tm ∧ r14 = nI f ∧ r19 = nI k ∧ d.2.2.2.2.2 < 20 ∧ tm ≤ 99 ∧ f < d.2.2.2.2.1 ∧ k < d.2.2.2.2.1 ∧ clRid tp n d b = ite' (k = f) (.inl (5, b3)) (riU tp n d tm f k (tokB tp n (aE tp n b3))) := by
  rcases C with ⟨q, rfl, e⟩ | ⟨rfl, h4⟩
  · exact Or.inl ⟨q, rfl, e⟩
  · have e0 := clRid_eq (tp := tp) (n := n) (d := d) (b := b) (by omega)
    rw [← aE_1 hw] at e0
    rcases nuS_step (d := d) (cl := cl) e0 with ⟨q, e1, e2⟩ | ⟨b1, e1, e2, e3, e4⟩
    · rw [e1]
      exact Or.inl ⟨q, rfl, e2⟩
    · rw [e1] at V1 V2 V3 ⊢
      rw [← e3] at e4
      rcases foS_step (cl := cl) (k := fun f _ e2 => riG tp n d (tkV tp n b1) f e2) e4 with ⟨q, f1, f2⟩ | ⟨b2, f1, f2, f3, f4⟩
      · rw [f1]
        exact Or.inl ⟨q, rfl, f2⟩
      · rw [f1] at V2 V3 ⊢
        rw [← f3] at f4
        rcases foS_step (cl := cl) (k := fun k b3 e3 => ite' (k = tkV tp n b2) (.inl (5, b3)) (riT tp n d (tkV tp n b1) (tkV tp n b2) k e3)) f4 with ⟨q, k1, k2⟩ | ⟨b3, k1, k2, k3, k4⟩
        · rw [k1]
          exact Or.inl ⟨q, rfl, k2⟩
        · rw [k1] at V3 ⊢
          refine Or.inr ⟨_, _, _, _, rfl, V1 _ _ _ rfl, V2 _ _ _ rfl, V3 _ _ _ rfl, h4, e2.2.2.2, f2, k2, ?_⟩
          rw [k3]
          exact k4
theorem k_readRider (S : SS tp n g (tdO d) h (.inr (d, cl, b))) (xo : XO l x) (hw : tkK tp n b = 1) : CV l x mX4_readRider 7 0 0 [.ref 1] h (fun h' => PK tp n g cl (clRid tp n d b) h') := by
  have D : PDok d := S.gd.2.2.2.2.2.2
  have r20 : d.2.2.2.2.2 ≤ 20 := S.gd.2.2.2.2.2.2.r20
  have f12 : d.2.2.2.2.1 ≤ 12 := S.gd.2.2.2.2.2.2.f12
  have nr : hI h 3 2 = nI d.2.2.2.2.2 := S.gd.2.2.2.2.2.1.nr
  have leaf : ∀ (hF : PH) (sF : ST) (r9 r14 r19 so : Int32) (sv : Nat), SS tp n g (tdO d) hF sF → so = nI sv → ((∃ q, sF = .inl q ∧ clRid tp n d b = .inl q) ∨ ∃ tm f k bF, sF = .inr (d, cl, bF) ∧ r9 = nI tm ∧ r14 = nI f ∧ r19 = nI k ∧ d.2.2.2.2.2 < 20 ∧ PDok (pdR d tm f k sv) ∧ clRid tp n d b = sgB tp n (pdR d tm f k sv) bF) → (hK hF 1).1 = 4 ∧ ∃ b35, hR hF 1 2 = some b35 ∧ (hK hF b35).1 = 1 ∧ ∃ (q37 : PH → Prop), CV l x mX1_addRider 1 0 0 [.ref b35, .int r9, .int r14, .int r19, .int so] hF q37 ∧ ∀ (h40 : PH), q37 h40 → (none : Option Value) = none ∧ PK tp n g cl (clRid tp n d b) h40 := by
    rintro hF sF r9 r14 r19 so sv SF rfl (⟨q, rfl, e⟩ | ⟨tm, f, c, bF, rfl, rfl, rfl, rfl, h4, ok, e⟩)
    · exact ⟨SF.k, 3, SF.bk, SF.b1, _, k_addRidB SF, fun h40 q40 => ⟨rfl, Or.inl ⟨q, e, q40⟩⟩⟩
    · exact ⟨SF.k, 3, SF.bk, SF.b1, _, k_addRidG SF h4 ok, fun h40 q40 => ⟨rfl, Or.inr ⟨_, _, e, q40⟩⟩⟩
  refine Cm.of (by decide) (Nat.le_of_ble_eq_true rfl) (vX4_readRider_0 ⟨S.k, 3, S.bk, S.b1, ?_⟩)
  rw [nr]
  refine ⟨fun z => ?_, fun z => ⟨_, k_fail S (k := 2) (by decide), fun h66 S66 => ⟨S66.k, ?_⟩⟩⟩
  · have C0 : (∃ q, (.inr (d, cl, b) : ST) = .inl q ∧ clRid tp n d b = .inl q) ∨ ((.inr (d, cl, b) : ST) = .inr (d, cl, b) ∧ d.2.2.2.2.2 < 20) := Or.inr ⟨rfl, (nI_ltI (b := 20) (by omega) (by decide)).mp z⟩
    have S0 := S
    refine ⟨_, k_readNumber (lo := 0) (hi := 99) S0 (by decide) (by decide), ?_⟩
    rintro r9 h8 ⟨S1, V1⟩
    refine ⟨S1.k, _, k_readFloor S1, ?_⟩
    rintro r14 h13 ⟨S2, V2⟩
    refine ⟨S2.k, _, k_readFloor S2, ?_⟩
    rintro r19 h18 ⟨S3, V3⟩
    have C3 := chR hw C0 V1 V2 V3
    generalize foS tp n (foS tp n (nuS tp n 0 99 (.inr (d, cl, b)))) = s3 at S3 C3
    refine ⟨fun z => ⟨S3.k, _, k_nextS S3, fun h24 S5 => ?_⟩, fun z => ⟨S3.k, _, k_fail S3 (k := 5) (by decide), fun h55 S4 => ⟨S4.k, _, k_nextS S4, fun h24 S5 => ?_⟩⟩⟩
    · have C5 : (∃ q, nxS tp n s3 = .inl q ∧ clRid tp n d b = .inl q) ∨ ∃ tm f k b5, nxS tp n s3 = .inr (d, cl, b5) ∧ r9 = nI tm ∧ r14 = nI f ∧ r19 = nI k ∧ d.2.2.2.2.2 < 20 ∧ (∀ so, so = 1 ∨ so = 2 → PDok (pdR d tm f k so)) ∧ clRid tp n d b = riU tp n d tm f k b5 := by
        rcases C3 with ⟨q, rfl, e⟩ | ⟨tm, f, k, b3, rfl, e9, e14, e19, h4, h99, hf, hk, e⟩
        · exact Or.inl ⟨q, rfl, e⟩
        · rw [ite'_f (fun y => z (by rw [e14, e19, y]))] at e
          exact Or.inr ⟨tm, f, k, _, rfl, e9, e14, e19, h4, fun so hs => pdR_ok D (by omega) h99 hf hk hs, e⟩
      generalize nxS tp n s3 = s5 at S5 C5
      refine ⟨xo.1.tx_RX4_149, S5.k, _, k_isWordS S5 xo.2 (k := 9) (by decide), ?_⟩
      rintro r30 h29 ⟨b9, eb9, w9, eh⟩
      rw [eh]
      clear eh h29
      refine ⟨fun z => ?_, fun z => ?_⟩
      · rw [if_pos z]
        refine leaf _ s5 r9 r14 r19 1 1 S5 rfl ?_
        rcases C5 with C5 | ⟨tm, f, k, b5, rfl, e9, e14, e19, h4, ok, e⟩
        · exact Or.inl C5
        · rw [eb9 _ _ _ rfl] at w9
          have n9 : ¬ isW tp n 9 b5 := w9.elim (fun y => absurd (y.2.symm.trans z) (by decide)) fun y => y.1
          refine Or.inr ⟨tm, f, k, _, rfl, e9, e14, e19, h4, ok 1 (Or.inl rfl), ?_⟩
          rw [e]
          unfold riU
          rw [ite'_f n9]
      · rw [if_neg z]
        refine ⟨S5.k, _, k_nextS S5, fun h43 S6 => leaf _ _ r9 r14 r19 2 2 S6 rfl ?_⟩
        rcases C5 with ⟨q, rfl, e⟩ | ⟨tm, f, k, b5, rfl, e9, e14, e19, h4, ok, e⟩
        · exact Or.inl ⟨q, rfl, e⟩
        · rw [eb9 _ _ _ rfl] at w9
          have n9 : isW tp n 9 b5 := w9.elim (fun y => y.1) fun y => absurd y.2 z
          refine Or.inr ⟨tm, f, k, _, rfl, e9, e14, e19, h4, ok 2 (Or.inr rfl), ?_⟩
          rw [e]
          unfold riU
          rw [ite'_t n9, ← aE_w n9]
    · have C5 : (∃ q, nxS tp n (flS 5 s3) = .inl q ∧ clRid tp n d b = .inl q) ∨ ∃ tm f k b5, nxS tp n (flS 5 s3) = .inr (d, cl, b5) ∧ r9 = nI tm ∧ r14 = nI f ∧ r19 = nI k ∧ d.2.2.2.2.2 < 20 ∧ (∀ so, so = 1 ∨ so = 2 → PDok (pdR d tm f k so)) ∧ clRid tp n d b = riU tp n d tm f k b5 := by
        rcases C3 with ⟨q, rfl, e⟩ | ⟨tm, f, k, b3, rfl, e9, e14, e19, h4, h99, hf, hk, e⟩
        · exact Or.inl ⟨q, rfl, e⟩
        · rw [ite'_t ((nI_eq (by omega) (by omega)).mp (e19.symm.trans (z.trans e14)))] at e
          exact Or.inl ⟨_, rfl, e⟩
      generalize nxS tp n (flS 5 s3) = s5 at S5 C5
      refine ⟨xo.1.tx_RX4_149, S5.k, _, k_isWordS S5 xo.2 (k := 9) (by decide), ?_⟩
      rintro r30 h29 ⟨b9, eb9, w9, eh⟩
      rw [eh]
      clear eh h29
      refine ⟨fun z => ?_, fun z => ?_⟩
      · rw [if_pos z]
        refine leaf _ s5 r9 r14 r19 1 1 S5 rfl ?_
        rcases C5 with C5 | ⟨tm, f, k, b5, rfl, e9, e14, e19, h4, ok, e⟩
        · exact Or.inl C5
        · rw [eb9 _ _ _ rfl] at w9
          have n9 : ¬ isW tp n 9 b5 := w9.elim (fun y => absurd (y.2.symm.trans z) (by decide)) fun y => y.1
          refine Or.inr ⟨tm, f, k, _, rfl, e9, e14, e19, h4, ok 1 (Or.inl rfl), ?_⟩
          rw [e]
          unfold riU
          rw [ite'_f n9]
      · rw [if_neg z]
        refine ⟨S5.k, _, k_nextS S5, fun h43 S6 => leaf _ _ r9 r14 r19 2 2 S6 rfl ?_⟩
        rcases C5 with ⟨q, rfl, e⟩ | ⟨tm, f, k, b5, rfl, e9, e14, e19, h4, ok, e⟩
        · exact Or.inl ⟨q, rfl, e⟩
        · rw [eb9 _ _ _ rfl] at w9
          have n9 : isW tp n 9 b5 := w9.elim (fun y => y.1) fun y => absurd y.2 z
          refine Or.inr ⟨tm, f, k, _, rfl, e9, e14, e19, h4, ok 2 (Or.inr rfl), ?_⟩
          rw [e]
          unfold riU
          rw [ite'_t n9, ← aE_w n9]
  · have C0 : (∃ q, flS 2 (.inr (d, cl, b)) = .inl q ∧ clRid tp n d b = .inl q) ∨ (flS 2 (.inr (d, cl, b)) = .inr (d, cl, b) ∧ d.2.2.2.2.2 < 20) := Or.inl ⟨_, rfl, by
      have z4 : d.2.2.2.2.2 = 20 := Nat.le_antisymm r20 (Nat.le_of_not_lt fun y => z (nI_lt (b := 20) y (by decide)))
      unfold clRid
      rw [ite'_t z4]⟩
    have S0 := S66
    refine ⟨_, k_readNumber (lo := 0) (hi := 99) S0 (by decide) (by decide), ?_⟩
    rintro r9 h8 ⟨S1, V1⟩
    refine ⟨S1.k, _, k_readFloor S1, ?_⟩
    rintro r14 h13 ⟨S2, V2⟩
    refine ⟨S2.k, _, k_readFloor S2, ?_⟩
    rintro r19 h18 ⟨S3, V3⟩
    have C3 := chR hw C0 V1 V2 V3
    generalize foS tp n (foS tp n (nuS tp n 0 99 (flS 2 (.inr (d, cl, b))))) = s3 at S3 C3
    refine ⟨fun z => ⟨S3.k, _, k_nextS S3, fun h24 S5 => ?_⟩, fun z => ⟨S3.k, _, k_fail S3 (k := 5) (by decide), fun h55 S4 => ⟨S4.k, _, k_nextS S4, fun h24 S5 => ?_⟩⟩⟩
    · have C5 : (∃ q, nxS tp n s3 = .inl q ∧ clRid tp n d b = .inl q) ∨ ∃ tm f k b5, nxS tp n s3 = .inr (d, cl, b5) ∧ r9 = nI tm ∧ r14 = nI f ∧ r19 = nI k ∧ d.2.2.2.2.2 < 20 ∧ (∀ so, so = 1 ∨ so = 2 → PDok (pdR d tm f k so)) ∧ clRid tp n d b = riU tp n d tm f k b5 := by
        rcases C3 with ⟨q, rfl, e⟩ | ⟨tm, f, k, b3, rfl, e9, e14, e19, h4, h99, hf, hk, e⟩
        · exact Or.inl ⟨q, rfl, e⟩
        · rw [ite'_f (fun y => z (by rw [e14, e19, y]))] at e
          exact Or.inr ⟨tm, f, k, _, rfl, e9, e14, e19, h4, fun so hs => pdR_ok D (by omega) h99 hf hk hs, e⟩
      generalize nxS tp n s3 = s5 at S5 C5
      refine ⟨xo.1.tx_RX4_149, S5.k, _, k_isWordS S5 xo.2 (k := 9) (by decide), ?_⟩
      rintro r30 h29 ⟨b9, eb9, w9, eh⟩
      rw [eh]
      clear eh h29
      refine ⟨fun z => ?_, fun z => ?_⟩
      · rw [if_pos z]
        refine leaf _ s5 r9 r14 r19 1 1 S5 rfl ?_
        rcases C5 with C5 | ⟨tm, f, k, b5, rfl, e9, e14, e19, h4, ok, e⟩
        · exact Or.inl C5
        · rw [eb9 _ _ _ rfl] at w9
          have n9 : ¬ isW tp n 9 b5 := w9.elim (fun y => absurd (y.2.symm.trans z) (by decide)) fun y => y.1
          refine Or.inr ⟨tm, f, k, _, rfl, e9, e14, e19, h4, ok 1 (Or.inl rfl), ?_⟩
          rw [e]
          unfold riU
          rw [ite'_f n9]
      · rw [if_neg z]
        refine ⟨S5.k, _, k_nextS S5, fun h43 S6 => leaf _ _ r9 r14 r19 2 2 S6 rfl ?_⟩
        rcases C5 with ⟨q, rfl, e⟩ | ⟨tm, f, k, b5, rfl, e9, e14, e19, h4, ok, e⟩
        · exact Or.inl ⟨q, rfl, e⟩
        · rw [eb9 _ _ _ rfl] at w9
          have n9 : isW tp n 9 b5 := w9.elim (fun y => y.1) fun y => absurd y.2 z
          refine Or.inr ⟨tm, f, k, _, rfl, e9, e14, e19, h4, ok 2 (Or.inr rfl), ?_⟩
          rw [e]
          unfold riU
          rw [ite'_t n9, ← aE_w n9]
    · have C5 : (∃ q, nxS tp n (flS 5 s3) = .inl q ∧ clRid tp n d b = .inl q) ∨ ∃ tm f k b5, nxS tp n (flS 5 s3) = .inr (d, cl, b5) ∧ r9 = nI tm ∧ r14 = nI f ∧ r19 = nI k ∧ d.2.2.2.2.2 < 20 ∧ (∀ so, so = 1 ∨ so = 2 → PDok (pdR d tm f k so)) ∧ clRid tp n d b = riU tp n d tm f k b5 := by
        rcases C3 with ⟨q, rfl, e⟩ | ⟨tm, f, k, b3, rfl, e9, e14, e19, h4, h99, hf, hk, e⟩
        · exact Or.inl ⟨q, rfl, e⟩
        · rw [ite'_t ((nI_eq (by omega) (by omega)).mp (e19.symm.trans (z.trans e14)))] at e
          exact Or.inl ⟨_, rfl, e⟩
      generalize nxS tp n (flS 5 s3) = s5 at S5 C5
      refine ⟨xo.1.tx_RX4_149, S5.k, _, k_isWordS S5 xo.2 (k := 9) (by decide), ?_⟩
      rintro r30 h29 ⟨b9, eb9, w9, eh⟩
      rw [eh]
      clear eh h29
      refine ⟨fun z => ?_, fun z => ?_⟩
      · rw [if_pos z]
        refine leaf _ s5 r9 r14 r19 1 1 S5 rfl ?_
        rcases C5 with C5 | ⟨tm, f, k, b5, rfl, e9, e14, e19, h4, ok, e⟩
        · exact Or.inl C5
        · rw [eb9 _ _ _ rfl] at w9
          have n9 : ¬ isW tp n 9 b5 := w9.elim (fun y => absurd (y.2.symm.trans z) (by decide)) fun y => y.1
          refine Or.inr ⟨tm, f, k, _, rfl, e9, e14, e19, h4, ok 1 (Or.inl rfl), ?_⟩
          rw [e]
          unfold riU
          rw [ite'_f n9]
      · rw [if_neg z]
        refine ⟨S5.k, _, k_nextS S5, fun h43 S6 => leaf _ _ r9 r14 r19 2 2 S6 rfl ?_⟩
        rcases C5 with ⟨q, rfl, e⟩ | ⟨tm, f, k, b5, rfl, e9, e14, e19, h4, ok, e⟩
        · exact Or.inl ⟨q, rfl, e⟩
        · rw [eb9 _ _ _ rfl] at w9
          have n9 : isW tp n 9 b5 := w9.elim (fun y => y.1) fun y => absurd y.2 z
          refine Or.inr ⟨tm, f, k, _, rfl, e9, e14, e19, h4, ok 2 (Or.inr rfl), ?_⟩
          rw [e]
          unfold riU
          rw [ite'_t n9, ← aE_w n9]
theorem KT.own (T : KT tp n g h b) (f1 : Fr1 1 h h') (N : ∀ j, 1 ≤ j → j ≤ 7 → hI h' 1 j = hI h 1 j) : KT tp n g h' b := by
  obtain ⟨t1, ⟨w1, w2, w3, w4, w5, w6, w7, w8, w9, w10⟩, t3, t4⟩ := T
  exact ⟨t1.trans (f1.frx (by decide) (by decide)), ⟨by rw [f1.hK]; exact w1, by rw [f1.hR]; exact w2, by rw [f1.hK]; exact w3, fun i hi => by rw [f1.hI (by decide)]; exact w4 i hi, w5, w6, by rw [N 3 (by decide) (by decide)]; exact w7, by rw [f1.hR]; exact w8, w9.fr f1, by rw [N 1 (by decide) (by decide)]; exact w10⟩, ⟨by rw [N 4 (by decide) (by decide)]; exact t3.1, by rw [N 5 (by decide) (by decide)]; exact t3.2.1, by rw [N 6 (by decide) (by decide)]; exact t3.2.2.1, by rw [N 7 (by decide) (by decide)]; exact t3.2.2.2⟩, t4⟩
theorem BT.own {o nc nf nr : Nat} {t ct rt : Nat → Int32} (B : BT h 3 t ct rt nc nf nr) (hC : nc ≤ 4) (hr : nr ≤ 20) (f1 : Fr1 1 h h') : BT h' 3 t ct rt nc nf nr := B.ac hC (by omega) (B.s.fr f1) fun c h1 h2 _ => f1.ac (by omega)
theorem SS.told (S : SS tp n g td h s) (v : Int32) : SS tp n g v (sI h 1 9 v) s := by
  have f1 : Fr1 1 h (sI h 1 9 v) := (Fr1.refl _ _).sI _ _
  have N : ∀ j, j ≠ 9 → hI (sI h 1 9 v) 1 j = hI h 1 j := fun j hj => gIk _ _ _ hj
  rcases s with q | ⟨d, cl, b⟩
  · obtain ⟨⟨b, T⟩, s1, s2, s3, s4, s5⟩ := S
    exact ⟨⟨b, T.own f1 fun j _ _ => N j (by omega)⟩, (N 10 (by decide)).trans s1, s2, (N 11 (by decide)).trans s3, by rw [f1.hI (by decide)]; exact s4, by rw [f1.hI (by decide)]; exact s5⟩
  · obtain ⟨T, s1, s2, s3, s4, B, D⟩ := S.gd
    exact ⟨T.own f1 fun j _ _ => N j (by omega), (N 10 (by decide)).trans s1, (N 11 (by decide)).trans s2, (N 8 (by decide)).trans s3, gI _ _ _ _, BT.own (o := 3) B D.c4 D.r20 f1, D⟩
def clS (s : ST) : ST := match s with
  | .inl q => .inl q
  | .inr q => .inr (q.1, q.2.1 + 1, q.2.2)
theorem SS.cls (S : SS tp n g td h s) : SS tp n g td (sI h 1 8 (hI h 1 8 + 1)) (clS s) := by
  have f1 : Fr1 1 h (sI h 1 8 (hI h 1 8 + 1)) := (Fr1.refl _ _).sI _ _
  have N : ∀ j, j ≠ 8 → hI (sI h 1 8 (hI h 1 8 + 1)) 1 j = hI h 1 j := fun j hj => gIk _ _ _ hj
  rcases s with q | ⟨d, cl, b⟩
  · obtain ⟨⟨b, T⟩, s1, s2, s3, s4, s5⟩ := S
    exact ⟨⟨b, T.own f1 fun j _ _ => N j (by omega)⟩, (N 10 (by decide)).trans s1, s2, (N 11 (by decide)).trans s3, by rw [f1.hI (by decide)]; exact s4, by rw [f1.hI (by decide)]; exact s5⟩
  · obtain ⟨T, s1, s2, s3, s4, B, D⟩ := S.gd
    exact ⟨T.own f1 fun j _ _ => N j (by omega), (N 10 (by decide)).trans s1, (N 11 (by decide)).trans s2, by rw [gI, s3, nI_1], (N 9 (by decide)).trans s4, BT.own (o := 3) B D.c4 D.r20 f1, D⟩
noncomputable def seS (k : Nat) (d : PD) (cl b : Nat) : ST := ite' (d.1 k = -1) (.inr (d, cl, b)) (.inl (4, b))
theorem k_readSetting {k lo hi : Nat} {bit : Int32} (S : SS tp n g td h (.inr (d, cl, b))) (hb : td &&& bit = 0 ↔ d.1 k = -1) (hl : lo < 1000) (hh : hi < 1000) : CI l x mX4_readSetting 3 0 0 [.ref 1, .int bit, .int (nI lo), .int (nI hi)] h (fun r h' => SS tp n g (td ||| bit) h' (nxS tp n (nuS tp n lo hi (seS k d cl b))) ∧ VL tp n (nuS tp n lo hi (seS k d cl b)) r) := by
  have e8 : hI h 1 9 = td := S.gd.2.2.2.2.1
  refine Cm.of (by decide) (Nat.le_of_ble_eq_true rfl) (vX4_readSetting_0 ⟨S.k, ?_⟩)
  rw [e8]
  refine ⟨fun z => ?_, fun z => ⟨_, k_fail S (k := 4) (by decide), fun h13 S13 => ⟨S13.k, ?_⟩⟩⟩
  · unfold seS
    rw [ite'_t (hb.mp z)]
    refine ⟨_, k_readNumber (S.told (td ||| bit)) hl hh, ?_⟩
    rintro r6 h5 ⟨S5, V5⟩
    exact ⟨S5.k, _, k_nextS S5, fun h10 S10 => ⟨_, rfl, S10, V5⟩⟩
  · unfold seS
    rw [ite'_f fun y => z (hb.mpr y)]
    refine ⟨_, k_readNumber (S13.told _) hl hh, ?_⟩
    rintro r6 h5 ⟨S5, V5⟩
    exact ⟨S5.k, _, k_nextS S5, fun h10 S10 => ⟨_, rfl, S10, V5⟩⟩
theorem peak0 {f t : Nat → Int32} : peakC f t 0 = 0 := by
  unfold peakC
  by_cases z : tellsT t 6 ≤ 0
  · rw [if_pos z]
  · rw [if_neg z, if_pos]
    exact Int32.not_le.mp z
theorem BT.set {o nc nf nr k v : Nat} {t ct rt : Nat → Int32} (R : BT h o t ct rt nc nf nr) (hC : nc ≤ 4) (h24 : nr ≤ 20) (hk : k = 0 ∨ 2 < k ∧ k < 7) (hv : v < 100) : BT (sI h o k (nI v)) o (up t k (nI v)) ct rt nc (if k = 0 then v else nf) nr := by
  have fr : Fr1 o h (sI h o k (nI v)) := (Fr1.refl _ _).sI _ _
  generalize ht : up t k (nI v) = t'
  have tu : ∀ j, j ≠ k → tellsT t' j = tellsT t j := fun j hj => by rw [← ht]; exact tells_up hj
  have ts : tellsT t' k = nI v := by rw [← ht]; exact tells_s hv
  have t2 : t' 2 = t 2 := by rw [← ht]; exact up_ne (by omega)
  have ef : ∀ j, j ≠ 2 → j ≠ 3 → bgF t' ct rt nc nr j = bgF t ct rt nc nr j := fun j h2 h3 => by
    unfold bgF
    rw [if_neg h2, if_neg h3, if_neg h2, if_neg h3, t2]
  have m0 : ∀ u : Nat → Int32, mm (bgF u ct rt nc nr) = 0 := fun u => by
    unfold mm
    rw [bg_lo (by decide)]
    rfl
  have S := R.s.fr fr
  refine ⟨S, ?_, (gIk _ _ _ (by omega)).trans R.nc, (gIk _ _ _ (by omega)).trans R.nr, ?_, ?_, ?_, ?_, ?_, ?_, ?_, ?_, ?_, ?_, fun c hc => ?_, fun r hr => ?_, ?_⟩
  · by_cases e : k = 0
    · rw [e, gI, if_pos rfl]
    · rw [gIk _ _ _ (by omega), if_neg e]; exact R.fl
  · by_cases e : k = 3
    · rw [e] at ts ⊢; rw [gI, ts]
    · rw [gIk _ _ _ (by omega), tu 3 (by omega)]; exact R.dw
  · rw [bg_lo (by decide)]
    show _ = tellsT t' 4
    by_cases e : k = 4
    · rw [e] at ts ⊢; rw [gI, ts]
    · rw [gIk _ _ _ (by omega), tu 4 (by omega), R.la, bg_lo (by decide)]; rfl
  · rw [bg_lo (by decide)]
    show _ = tellsT t' 5
    by_cases e : k = 5
    · rw [e] at ts ⊢; rw [gI, ts]
    · rw [gIk _ _ _ (by omega), tu 5 (by omega), R.po, bg_lo (by decide)]; rfl
  · by_cases e : k = 6
    · rw [e] at ts ⊢; rw [gI, ts]
    · rw [gIk _ _ _ (by omega), tu 6 (by omega)]; exact R.pk
  · rw [gIk _ _ _ (by omega), ef 0 (by decide) (by decide)]; exact R.ti
  · rw [gIk _ _ _ (by omega), ef 1 (by decide) (by decide)]; exact R.bu
  · rw [gIk _ _ _ (by omega), ef 4 (by decide) (by decide)]; exact R.tu
  · rw [gIk _ _ _ (by omega)]
    exact R.ar.same fun j h1 h2 => ef j (by omega) (by omega)
  · rw [gIk _ _ _ (by omega), R.ru, m0, m0]
    exact (peak0 (t := t)).trans peak0.symm
  · rw [gIk _ _ _ (by omega), cnt_same (fun r hr => ef _ (by omega) (by omega))]; exact R.fi
  · have ac := fr.ac (b := o + 4 + c) (by omega)
    refine (R.ca c hc).oth (S.lc c (by omega)).2 (fun k => (ac.2 k).1) (fun k => (ac.2 k).2.2.1) (ac.2 11).2.1 (fun k hk => ef _ (by omega) (by omega)) (fun r hr => ef _ (by omega) (by omega)) fun i hi => ?_
    rw [(ac.2 12).2.1, ef _ (by omega) (by omega)]
    exact (R.ca c hc).1.ca i hi
  · exact ((R.ri r hr).ac (fr.ac (by omega))).row fun k hk => ef _ (by omega) (by omega)
  · rw [ps_eq (fun c hc => fr.hI (by omega) 8) nc (Nat.le_refl _), ef 5 (by decide) (by decide)]
    exact R.pa
end RidK
