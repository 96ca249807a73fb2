/-! THE CLASS READS A TEXT: a car, a rider -/
def tdO (d : PD) : Int32 := nI ((if d.1 3 = -1 then 0 else 1) + (if d.1 4 = -1 then 0 else 2) + (if d.1 5 = -1 then 0 else 4) + (if d.1 6 = -1 then 0 else 8))
def PK (tp : Nat → Int32) (n : Nat) (g : PH) (cl : Nat) (r : PR) (h : PH) : Prop := (∃ q, r = .inl q ∧ SS tp n g 0 h (.inl q)) ∨ ∃ d b, r = sgB tp n d b ∧ SS tp n g (tdO d) h (.inr (d, cl, b))
noncomputable def caU (tp : Nat → Int32) (n : Nat) (d : PD) (f c b : Nat) : PR := ite' (isW tp n 7 b) (sgB tp n (pdC d f c 1) (tokB tp n (tkE tp n b))) (ite' (isW tp n 8 b) (sgB tp n (pdC d f c 2) (tokB tp n (tkE tp n b))) (sgB tp n (pdC d f c 0) b))
noncomputable def riU (tp : Nat → Int32) (n : Nat) (d : PD) (tm f k b : Nat) : PR := ite' (isW tp n 9 b) (sgB tp n (pdR d tm f k 2) (tokB tp n (tkE tp n b))) (sgB tp n (pdR d tm f k 1) b)
section CarK
variable {l : Launch} {x : CX} {g h h' : PH} {tp : Nat → Int32} {n b cl : Nat} {td : Int32} {s : ST} {d : PD} {q : Int32 × Nat} {r : PR} {x1 x2 x3 x4 : Int32}
theorem KT.bank (T : KT tp n g h b) (p : FrB 3 h h') : KT tp n g h' b := by
  have A := p.ac (b := 1) (by omega)
  have A1 := p.ac (b := 2) (by omega)
  obtain ⟨t1, ⟨w1, w2, w3, w4, w5, w6, w7, w8, w9, w10⟩, t3, t4⟩ := T
  exact ⟨t1.trans (p.frx (by decide) (by decide)), ⟨by rw [A.1]; exact w1, by rw [A.hR]; exact w2, by rw [A1.1]; exact w3, fun i hi => by rw [A1.hI]; exact w4 i hi, w5, w6, by rw [A.hI]; exact w7, by rw [A.hR]; exact w8, w9.frb p, by rw [A.hI]; exact w10⟩, ⟨by rw [A.hI]; exact t3.1, by rw [A.hI]; exact t3.2.1, by rw [A.hI]; exact t3.2.2.1, by rw [A.hI]; exact t3.2.2.2⟩, t4⟩
theorem SS.bankB (S : SS tp n g td h (.inl q)) (p : FrB 3 h h') (c : inR (hI h' 3 1) 5) (r : inR (hI h' 3 2) 25) : SS tp n g td h' (.inl q) := by
  have A := p.ac (b := 1) (by omega)
  obtain ⟨⟨b, T⟩, s1, s2, s3, _⟩ := S
  exact ⟨⟨b, T.bank p⟩, by rw [A.hI]; exact s1, s2, by rw [A.hI]; exact s3, c, r⟩
theorem SS.bankG {d' : PD} (S : SS tp n g td h (.inr (d, cl, b))) (p : FrB 3 h h') (B : BT h' 3 d'.1 d'.2.1 d'.2.2.1 d'.2.2.2.1 d'.2.2.2.2.1 d'.2.2.2.2.2) (D : PDok d') : SS tp n g td h' (.inr (d', cl, b)) := by
  have A := p.ac (b := 1) (by omega)
  obtain ⟨T, s1, s2, s3, s4, _⟩ := S.gd
  exact ⟨T.bank p, by rw [A.hI]; exact s1, by rw [A.hI]; exact s2, by rw [A.hI]; exact s3, by rw [A.hI]; exact s4, B, D⟩
theorem k_addCarB (S : SS tp n g td h (.inl q)) : CV l x mX1_addCar 2 0 0 [.ref 3, .int x1, .int x2, .int x3] h (fun h' => SS tp n g td h' (.inl q)) := by
  have B := S.th.2.2.2.2.2.2.2.2.1
  obtain ⟨c, hc, ec⟩ := S.2.2.2.2.1
  have hr := S.2.2.2.2.2
  refine Cm.of (by decide) (Nat.le_of_ble_eq_true rfl) (vX1_addCar_0 ⟨B.k, fun _ => ⟨rfl, S⟩, fun z => ?_⟩)
  rw [ec] at z ⊢
  have h4 : c < 4 := Nat.lt_of_not_le fun y => z (nI_le (a := 4) y (by omega))
  refine ⟨4, B.l, by rw [B.lk], by rw [B.lk]; exact vp_in_nI h4 (by decide), 3 + 4 + c, by rw [nI_clamp (by omega)]; exact (B.lc c h4).1, (B.lc c h4).2, _, k_tellCar (B.lc c h4).2, ?_⟩
  rintro h12 ⟨f12, _⟩
  have e1 : hI h12 3 1 = nI c := (f12.hI (by omega) 1).trans ec
  have fo : Fr1 3 h12 (sI h12 3 1 (hI h12 3 1 + 1)) := (Fr1.refl _ _).sI _ _
  refine ⟨(B.fr f12).k, rfl, S.bankB ((f12.frb (by omega) (by omega)).trans (fo.frb (by decide) (by decide))) ?_ ?_⟩
  · rw [gI, e1, nI_1]; exact ⟨_, by omega, rfl⟩
  · rw [gIk _ _ _ (by decide), f12.hI (by omega)]; exact hr
theorem k_addRidB (S : SS tp n g td h (.inl q)) : CV l x mX1_addRider 1 0 0 [.ref 3, .int x1, .int x2, .int x3, .int x4] h (fun h' => SS tp n g td h' (.inl q)) := by
  have B := S.th.2.2.2.2.2.2.2.2.1
  obtain ⟨c, hc, ec⟩ := S.2.2.2.2.2
  have hr := S.2.2.2.2.1
  refine Cm.of (by decide) (Nat.le_of_ble_eq_true rfl) (vX1_addRider_0 ⟨B.k, fun _ => ⟨rfl, S⟩, fun z => ?_⟩)
  rw [ec] at z ⊢
  have h4 : c < 24 := Nat.lt_of_not_le fun y => z (nI_le (a := 24) y (by omega))
  refine ⟨5, B.p, by rw [B.pk], by rw [B.pk]; exact vp_in_nI h4 (by decide), 3 + 8 + c, by rw [nI_clamp (by omega)]; exact (B.pr c h4).1, (B.pr c h4).2, _, k_tellRider (B.pr c h4).2, ?_⟩
  rintro h12 ⟨f12, _⟩
  have e1 : hI h12 3 2 = nI c := (f12.hI (by omega) 2).trans ec
  have fo : Fr1 3 h12 (sI h12 3 2 (hI h12 3 2 + 1)) := (Fr1.refl _ _).sI _ _
  refine ⟨(B.fr f12).k, rfl, S.bankB ((f12.frb (by omega) (by omega)).trans (fo.frb (by decide) (by decide))) ?_ ?_⟩
  · rw [gIk _ _ _ (by decide), f12.hI (by omega)]; exact hr
  · rw [gI, e1, nI_1]; exact ⟨_, by omega, rfl⟩
theorem k_addCarG {f c so : Nat} (S : SS tp n g td h (.inr (d, cl, b))) (h4 : d.2.2.2.1 < 4) (D : PDok (pdC d f c so)) : CV l x mX1_addCar 2 0 0 [.ref 3, .int (nI f), .int (nI c), .int (nI so)] h (fun h' => SS tp n g td h' (.inr (pdC d f c so, cl, b))) := by
  obtain ⟨_, _, _, _, _, B, T⟩ := S.gd
  refine Cm.mono (k_addCar B h4 T.r20) ?_
  rintro v h1 ⟨ev, p, B1⟩
  exact ⟨ev, S.bankG p B1 D⟩
theorem k_addRidG {tm f k so : Nat} (S : SS tp n g td h (.inr (d, cl, b))) (h4 : d.2.2.2.2.2 < 20) (D : PDok (pdR d tm f k so)) : CV l x mX1_addRider 1 0 0 [.ref 3, .int (nI tm), .int (nI f), .int (nI k), .int (nI so)] h (fun h' => SS tp n g td h' (.inr (pdR d tm f k so, cl, b))) := by
  obtain ⟨_, _, _, _, _, B, T⟩ := S.gd
  refine Cm.mono (k_addTold B T.c4 (by omega)) ?_
  rintro v h1 ⟨ev, p, B1⟩
  exact ⟨ev, S.bankG p B1 D⟩
theorem aE_w {k : Nat} (z : isW tp n k b) : aE tp n b = tkE tp n b := by unfold aE; rw [z.1, if_neg (by decide)]
theorem aE_1 (z : tkK tp n b = 1) : aE tp n b = tkE tp n b := by unfold aE; rw [z, if_neg (by decide)]
theorem aE_2 (z : tkK tp n b = 2) : aE tp n b = tkE tp n b := by unfold aE; rw [z, if_neg (by decide)]
theorem nuS_step {lo hi : Nat} {k : Nat → Nat → Nat → PR} (e : r = nuC tp n lo hi (aE tp n b) k) : (∃ q, nuS tp n lo hi (.inr (d, cl, b)) = .inl q ∧ r = .inl q) ∨ ∃ b1, nuS tp n lo hi (.inr (d, cl, b)) = .inr (d, cl, b1) ∧ NB tp n lo hi b1 ∧ aE tp n b1 = tkE tp n b1 ∧ r = k (tkV tp n b1) b1 (tkE tp n b1) := by
  have u : nuS tp n lo hi (.inr (d, cl, b)) = nbS tp n lo hi (.inr (d, cl, tokB tp n (aE tp n b))) := rfl
  by_cases z : NB tp n lo hi (tokB tp n (aE tp n b))
  · rw [nuC_ok z] at e
    rw [u, nbS_t z]
    exact Or.inr ⟨_, rfl, z, aE_2 z.1, e⟩
  · rw [nuC_no z] at e
    rw [u, nbS_f z]
    exact Or.inl ⟨_, rfl, e⟩
theorem foS_step {k : Nat → Nat → Nat → PR} (e : r = nuC tp n 0 99 (aE tp n b) fun f b1 e1 => ite' (f < d.2.2.2.2.1) (k f b1 e1) (.inl (3, b1))) : (∃ q, foS tp n (.inr (d, cl, b)) = .inl q ∧ r = .inl q) ∨ ∃ b1, foS tp n (.inr (d, cl, b)) = .inr (d, cl, b1) ∧ tkV tp n b1 < d.2.2.2.2.1 ∧ aE tp n b1 = tkE tp n b1 ∧ r = k (tkV tp n b1) b1 (tkE tp n b1) := by
  rcases nuS_step (d := d) (cl := cl) e with ⟨q, e1, e2⟩ | ⟨b1, e1, e2, e3, e4⟩
  · exact Or.inl ⟨q, by unfold foS; rw [e1]; rfl, e2⟩
  · by_cases z : tkV tp n b1 < d.2.2.2.2.1
    · rw [ite'_t z] at e4
      exact Or.inr ⟨b1, by unfold foS; rw [e1, fbS_t z], z, e3, e4⟩
    · rw [ite'_f z] at e4
      exact Or.inl ⟨_, by unfold foS; rw [e1, fbS_f z], e4⟩
/-- how a car's clause stands behind its two numbers -/
theorem chC {s0 : ST} {r9 r14 : Int32} (hw : tkK tp n b = 1) (C : (∃ q, s0 = .inl q ∧ clCar tp n d b = .inl q) ∨ (s0 = .inr (d, cl, b) ∧ d.2.2.2.1 < 4)) (V1 : VL tp n (foS tp n s0) r9) (V2 : VL tp n (nuS tp n 1 6 (foS tp n s0)) r14) : (∃ q, nxS tp n (nuS tp n 1 6 (foS tp n s0)) = .inl q ∧ clCar tp n d b = .inl q) ∨ ∃ f c b3, nxS tp n (nuS tp n 1 6 (foS tp n s0)) = .inr (d, cl, b3) ∧ r9 = nI f ∧ r14 = nI c ∧ d.2.2.2.1 < 4 ∧ f < d.2.2.2.2.1 ∧ 1 ≤ c ∧ c ≤ 6 ∧ clCar tp n d b = caU tp n d f c b3 := by
  rcases C with ⟨q, rfl, e⟩ | ⟨rfl, h4⟩
  · exact Or.inl ⟨q, rfl, e⟩
  · have e0 := clCar_eq (tp := tp) (n := n) (d := d) (b := b) (by omega)
    rw [← aE_1 hw] at e0
    rcases foS_step (cl := cl) e0 with ⟨q, e1, e2⟩ | ⟨b1, e1, e2, e3, e4⟩
    · rw [e1]
      exact Or.inl ⟨q, rfl, e2⟩
    · rw [e1] at V1 V2 ⊢
      rw [← e3] at e4
      rcases nuS_step (d := d) (cl := cl) e4 with ⟨q, f1, f2⟩ | ⟨b2, f1, f2, f3, f4⟩
      · rw [f1]
        exact Or.inl ⟨q, rfl, f2⟩
      · rw [f1] at V2 ⊢
        refine Or.inr ⟨_, _, _, rfl, V1 _ _ _ rfl, V2 _ _ _ rfl, h4, e2, f2.2.2.1, f2.2.2.2, ?_⟩
        show _ = caU tp n d _ _ (tokB tp n (aE tp n b2))
        rw [f3]
        exact f4
theorem k_readCar (S : SS tp n g (tdO d) h (.inr (d, cl, b))) (xo : XO l x) (hw : tkK tp n b = 1) : CV l x mX4_readCar 7 0 0 [.ref 1] h (fun h' => PK tp n g cl (clCar tp n d b) h') := by
  have D : PDok d := S.gd.2.2.2.2.2.2
  have c4 : d.2.2.2.1 ≤ 4 := S.gd.2.2.2.2.2.2.c4
  have nc : hI h 3 1 = nI d.2.2.2.1 := S.gd.2.2.2.2.2.1.nc
  have leaf : ∀ (hF : PH) (sF : ST) (r9 r14 so : Int32) (sv : Nat), SS tp n g (tdO d) hF sF → so = nI sv → ((∃ q, sF = .inl q ∧ clCar tp n d b = .inl q) ∨ ∃ f c bF, sF = .inr (d, cl, bF) ∧ r9 = nI f ∧ r14 = nI c ∧ d.2.2.2.1 < 4 ∧ PDok (pdC d f c sv) ∧ clCar tp n d b = sgB tp n (pdC d f c sv) bF) → (hK hF 1).1 = 4 ∧ ∃ b35, hR hF 1 2 = some b35 ∧ (hK hF b35).1 = 1 ∧ ∃ (q37 : PH → Prop), CV l x mX1_addCar 2 0 0 [.ref b35, .int r9, .int r14, .int so] hF q37 ∧ ∀ (h40 : PH), q37 h40 → (none : Option Value) = none ∧ PK tp n g cl (clCar tp n d b) h40 := by
    rintro hF sF r9 r14 so sv SF rfl (⟨q, rfl, e⟩ | ⟨f, c, bF, rfl, rfl, rfl, h4, ok, e⟩)
    · exact ⟨SF.k, 3, SF.bk, SF.b1, _, k_addCarB SF, fun h40 q40 => ⟨rfl, Or.inl ⟨q, e, q40⟩⟩⟩
    · exact ⟨SF.k, 3, SF.bk, SF.b1, _, k_addCarG SF h4 ok, fun h40 q40 => ⟨rfl, Or.inr ⟨_, _, e, q40⟩⟩⟩
  refine Cm.of (by decide) (Nat.le_of_ble_eq_true rfl) (vX4_readCar_0 ⟨S.k, 3, S.bk, S.b1, ?_⟩)
  rw [nc]
  refine ⟨fun z => ?_, fun z => ⟨_, k_fail S (k := 2) (by decide), fun h66 S66 => ⟨S66.k, ?_⟩⟩⟩
  · have C0 : (∃ q, (.inr (d, cl, b) : ST) = .inl q ∧ clCar tp n d b = .inl q) ∨ ((.inr (d, cl, b) : ST) = .inr (d, cl, b) ∧ d.2.2.2.1 < 4) := Or.inr ⟨rfl, (nI_ltI (b := 4) (by omega) (by decide)).mp z⟩
    have S0 := S
    refine ⟨_, k_readFloor S0, ?_⟩
    rintro r9 h8 ⟨S1, V1⟩
    refine ⟨S1.k, _, k_readNumber (lo := 1) (hi := 6) S1 (by decide) (by decide), ?_⟩
    rintro r14 h13 ⟨S2, V2⟩
    refine ⟨S2.k, _, k_nextS S2, fun h18 S3 => ?_⟩
    have C3 := chC hw C0 V1 V2
    generalize nxS tp n (nuS tp n 1 6 (foS tp n (.inr (d, cl, b)))) = s3 at S3 C3
    refine ⟨xo.1.tx_RX4_138, S3.k, _, k_isWordS S3 xo.2 (k := 7) (by decide), ?_⟩
    rintro r24 h23 ⟨b7, eb7, w7, eh⟩
    rw [eh]
    clear eh h23
    refine ⟨fun z => ?_, fun z => ⟨S3.k, _, k_nextS S3, fun h56 S4 => leaf _ _ r9 r14 1 1 S4 rfl ?_⟩⟩
    · refine ⟨xo.1.tx_RX4_140, S3.k, _, k_isWordS S3 xo.2 (k := 8) (by decide), ?_⟩
      rintro r31 h30 ⟨b8, eb8, w8, eh⟩
      rw [eh]
      clear eh h30
      by_cases z8 : r31 = 0
      · rw [if_pos z8]
        refine ⟨fun _ => leaf _ s3 r9 r14 0 0 S3 rfl ?_, fun y => absurd rfl y⟩
        rcases C3 with C3 | ⟨f, c, b3, rfl, e9, e14, h4, hf, h1, h6, e⟩
        · exact Or.inl C3
        · rw [eb7 _ _ _ rfl] at w7
          rw [eb8 _ _ _ rfl] at w8
          have n7 : ¬ isW tp n 7 b3 := w7.elim (fun y => absurd (y.2.symm.trans z) (by decide)) fun y => y.1
          have n8 : ¬ isW tp n 8 b3 := w8.elim (fun y => absurd (y.2.symm.trans z8) (by decide)) fun y => y.1
          refine Or.inr ⟨f, c, b3, rfl, e9, e14, h4, pdC_ok D (by omega) hf h1 h6 (Or.inl rfl), ?_⟩
          rw [e]
          unfold caU
          rw [ite'_f n7, ite'_f n8]
      · rw [if_neg z8]
        refine ⟨fun y => absurd y (by decide), fun _ => ⟨S3.k, _, k_nextS S3, fun h44 S4 => leaf _ _ r9 r14 2 2 S4 rfl ?_⟩⟩
        rcases C3 with ⟨q, rfl, e⟩ | ⟨f, c, b3, rfl, e9, e14, h4, hf, h1, h6, e⟩
        · exact Or.inl ⟨q, rfl, e⟩
        · rw [eb7 _ _ _ rfl] at w7
          rw [eb8 _ _ _ rfl] at w8
          have n7 : ¬ isW tp n 7 b3 := w7.elim (fun y => absurd (y.2.symm.trans z) (by decide)) fun y => y.1
          have n8 : isW tp n 8 b3 := w8.elim (fun y => y.1) fun y => absurd y.2 z8
          refine Or.inr ⟨f, c, _, rfl, e9, e14, h4, pdC_ok D (by omega) hf h1 h6 (Or.inr (Or.inr rfl)), ?_⟩
          rw [e]
          unfold caU
          rw [ite'_f n7, ite'_t n8, ← aE_w n8]
    · rcases C3 with ⟨q, rfl, e⟩ | ⟨f, c, b3, rfl, e9, e14, h4, hf, h1, h6, e⟩
      · exact Or.inl ⟨q, rfl, e⟩
      · rw [eb7 _ _ _ rfl] at w7
        have n7 : isW tp n 7 b3 := w7.elim (fun y => y.1) fun y => absurd y.2 z
        refine Or.inr ⟨f, c, _, rfl, e9, e14, h4, pdC_ok D (by omega) hf h1 h6 (Or.inr (Or.inl rfl)), ?_⟩
        rw [e]
        unfold caU
        rw [ite'_t n7, ← aE_w n7]
  · have C0 : (∃ q, flS 2 (.inr (d, cl, b)) = .inl q ∧ clCar tp n d b = .inl q) ∨ (flS 2 (.inr (d, cl, b)) = .inr (d, cl, b) ∧ d.2.2.2.1 < 4) := Or.inl ⟨_, rfl, by
      have z4 : d.2.2.2.1 = 4 := Nat.le_antisymm c4 (Nat.le_of_not_lt fun y => z (nI_lt (b := 4) y (by decide)))
      unfold clCar
      rw [ite'_t z4]⟩
    have S0 := S66
    refine ⟨_, k_readFloor S0, ?_⟩
    rintro r9 h8 ⟨S1, V1⟩
    refine ⟨S1.k, _, k_readNumber (lo := 1) (hi := 6) S1 (by decide) (by decide), ?_⟩
    rintro r14 h13 ⟨S2, V2⟩
    refine ⟨S2.k, _, k_nextS S2, fun h18 S3 => ?_⟩
    have C3 := chC hw C0 V1 V2
    generalize nxS tp n (nuS tp n 1 6 (foS tp n (flS 2 (.inr (d, cl, b))))) = s3 at S3 C3
    refine ⟨xo.1.tx_RX4_138, S3.k, _, k_isWordS S3 xo.2 (k := 7) (by decide), ?_⟩
    rintro r24 h23 ⟨b7, eb7, w7, eh⟩
    rw [eh]
    clear eh h23
    refine ⟨fun z => ?_, fun z => ⟨S3.k, _, k_nextS S3, fun h56 S4 => leaf _ _ r9 r14 1 1 S4 rfl ?_⟩⟩
    · refine ⟨xo.1.tx_RX4_140, S3.k, _, k_isWordS S3 xo.2 (k := 8) (by decide), ?_⟩
      rintro r31 h30 ⟨b8, eb8, w8, eh⟩
      rw [eh]
      clear eh h30
      by_cases z8 : r31 = 0
      · rw [if_pos z8]
        refine ⟨fun _ => leaf _ s3 r9 r14 0 0 S3 rfl ?_, fun y => absurd rfl y⟩
        rcases C3 with C3 | ⟨f, c, b3, rfl, e9, e14, h4, hf, h1, h6, e⟩
        · exact Or.inl C3
        · rw [eb7 _ _ _ rfl] at w7
          rw [eb8 _ _ _ rfl] at w8
          have n7 : ¬ isW tp n 7 b3 := w7.elim (fun y => absurd (y.2.symm.trans z) (by decide)) fun y => y.1
          have n8 : ¬ isW tp n 8 b3 := w8.elim (fun y => absurd (y.2.symm.trans z8) (by decide)) fun y => y.1
          refine Or.inr ⟨f, c, b3, rfl, e9, e14, h4, pdC_ok D (by omega) hf h1 h6 (Or.inl rfl), ?_⟩
          rw [e]
          unfold caU
          rw [ite'_f n7, ite'_f n8]
      · rw [if_neg z8]
        refine ⟨fun y => absurd y (by decide), fun _ => ⟨S3.k, _, k_nextS S3, fun h44 S4 => leaf _ _ r9 r14 2 2 S4 rfl ?_⟩⟩
        rcases C3 with ⟨q, rfl, e⟩ | ⟨f, c, b3, rfl, e9, e14, h4, hf, h1, h6, e⟩
        · exact Or.inl ⟨q, rfl, e⟩
        · rw [eb7 _ _ _ rfl] at w7
          rw [eb8 _ _ _ rfl] at w8
          have n7 : ¬ isW tp n 7 b3 := w7.elim (fun y => absurd (y.2.symm.trans z) (by decide)) fun y => y.1
          have n8 : isW tp n 8 b3 := w8.elim (fun y => y.1) fun y => absurd y.2 z8
          refine Or.inr ⟨f, c, _, rfl, e9, e14, h4, pdC_ok D (by omega) hf h1 h6 (Or.inr (Or.inr rfl)), ?_⟩
          rw [e]
          unfold caU
          rw [ite'_f n7, ite'_t n8, ← aE_w n8]
    · rcases C3 with ⟨q, rfl, e⟩ | ⟨f, c, b3, rfl, e9, e14, h4, hf, h1, h6, e⟩
      · exact Or.inl ⟨q, rfl, e⟩
      · rw [eb7 _ _ _ rfl] at w7
        have n7 : isW tp n 7 b3 := w7.elim (fun y => y.1) fun y => absurd y.2 z
        refine Or.inr ⟨f, c, _, rfl, e9, e14, h4, pdC_ok D (by omega) hf h1 h6 (Or.inr (Or.inl rfl)), ?_⟩
        rw [e]
        unfold caU
        rw [ite'_t n7, ← aE_w n7]
end CarK
