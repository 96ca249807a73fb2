/-! THE CLASS: a car's move -/
section CarMove
variable {l : Launch} {x : CX} {h : PH} {a o c nc nf nr m : Nat} {f g t ct : Nat → Int32}
theorem DR.same {g' : Nat → Int32} {L J : Int32} (D : DR f g c nr L J) (e0 : g' 0 = g 0) (e : ∀ r, r < nr → ∀ k, k < 9 → g' (48 + 9 * r + k) = g (48 + 9 * r + k)) : DR f g' c nr L J :=
  ⟨e0.trans D.t0, fun r hr k hk => (e r hr k hk).trans (D.rr r hr k hk), D.jj, D.ll⟩
theorem CO.setWy {w : Int32} (C : CO h a ct nr g c) (hc : c < 4) (hr : nr ≤ 24) : CO (sI h a 4 w) a ct nr (up g (16 + 8 * c + 1) w) c := by
  obtain ⟨⟨q1, q2, q3, q4, q5, q6, q7, q8, q9, q10, q11, q12⟩, G⟩ := C
  refine ⟨?_, G.same rfl (up_ne (by omega)) (fun r hr => up_ne (by omega))⟩
  unfold CB
  simp (disch := omega) only [up_ne, up_eq]
  refine ⟨q1, ?_, ?_, ?_, ?_, ?_, ?_, ?_, q9, ?_, ?_, q12⟩
  · rw [gIk _ _ _ (by decide)]; exact q2
  · rw [gIk _ _ _ (by decide)]; exact q3
  · rw [gIk _ _ _ (by decide)]; exact q4
  · rw [gIk _ _ _ (by decide)]; exact q5
  · rw [gI]
  · rw [gIk _ _ _ (by decide)]; exact q7
  · rw [gIk _ _ _ (by decide)]; exact q8
  · rw [gIk _ _ _ (by decide)]; exact q10
  · rw [gIk _ _ _ (by decide)]; exact q11
theorem CO.setDr {w : Int32} (C : CO h a ct nr g c) (hc : c < 4) (hr : nr ≤ 24) : CO (sI h a 5 w) a ct nr (up g (16 + 8 * c + 2) w) c := by
  obtain ⟨⟨q1, q2, q3, q4, q5, q6, q7, q8, q9, q10, q11, q12⟩, G⟩ := C
  refine ⟨?_, G.same rfl (up_ne (by omega)) (fun r hr => up_ne (by omega))⟩
  unfold CB
  simp (disch := omega) only [up_ne, up_eq]
  refine ⟨q1, ?_, ?_, ?_, ?_, ?_, ?_, ?_, q9, ?_, ?_, q12⟩
  · rw [gIk _ _ _ (by decide)]; exact q2
  · rw [gIk _ _ _ (by decide)]; exact q3
  · rw [gIk _ _ _ (by decide)]; exact q4
  · rw [gIk _ _ _ (by decide)]; exact q5
  · rw [gIk _ _ _ (by decide)]; exact q6
  · rw [gI]
  · rw [gIk _ _ _ (by decide)]; exact q8
  · rw [gIk _ _ _ (by decide)]; exact q10
  · rw [gIk _ _ _ (by decide)]; exact q11
theorem CO.setWk {b : UInt32} (C : CO h a ct nr g c) (hc : c < 4) (hr : nr ≤ 24) : CO (sF h a 7 (FP.fadd (hF h a 7) b)) a ct nr (worksC g c b) c := by
  obtain ⟨⟨q1, q2, q3, q4, q5, q6, q7, q8, q9, q10, q11, q12⟩, G⟩ := C
  refine ⟨?_, G.same rfl (up_ne (by omega)) (fun r hr => up_ne (by omega))⟩
  unfold CB worksC
  simp (disch := omega) only [up_ne, up_eq]
  refine ⟨q1, q2, q3, q4, q5, q6, q7, q8, ?_, q10, q11, q12⟩
  rw [gF, q9]; rfl
/-- what a car's move ends with -/
def MP (f g : Nat → Int32) (t ct : Nat → Int32) (nr nf m c a : Nat) (h : PH) (v : Int32) (h' : PH) : Prop :=
  v = stV nr nf c g ∧ Fr1 a h h' ∧ CO h' a ct nr (stR t ct nr nf m c g) c ∧ DR f (stR t ct nr nf m c g) c nr (hI h' a 13) (hI h' a 14) ∧ (∃ d, hI h' a 8 = hI h a 8 + d ∧ stR t ct nr nf m c g 5 = g 5 + d) ∧ (v = 0 → hI h' a 13 = hI h a 13 ∧ hI h' a 14 = hI h a 14) ∧ (hI h a 14 = 0 → hI h a 13 = 0 → ∀ r, r < nr → bt (hI h' a 13) r = true → bt (hI h' a 14) r = false)
theorem opG_lo {fl k : Nat} (hc : c < 4) (hk : k < 48) (h3 : k ≠ 16 + 8 * c + 3) : opG g c fl nr k = g k := by
  have : ∀ n, opA g c (nI fl) n k = g k := by
    intro n
    induction n with
    | zero => rfl
    | succ n ih =>
      unfold opA offR arrivesR
      split
      · exact ih
      · split
        · rw [up_ne (by omega), up_ne (by omega), up_ne (by omega), up_ne (by omega)]
          exact ih
        · exact ih
  exact this nr
theorem lo_rid {u : Nat → Int32} {n r k : Nat} {y : Int32} (hc : c < 4) : movesC u c n y (48 + 9 * r + k) = u (48 + 9 * r + k) := by
  unfold movesC worksC
  rw [up_ne (by omega), up_ne (by omega)]
theorem goD_rid {fl n r k : Nat} {rest y : Int32} (hc : c < 4) : goD g c fl n rest y (48 + 9 * r + k) = g (48 + 9 * r + k) := by
  unfold goD
  split
  · split
    · rfl
    · exact lo_rid hc
  · split
    · exact lo_rid hc
    · split
      · exact lo_rid hc
      · rw [lo_rid hc, up_ne (by omega)]
theorem goD_0 {fl n : Nat} {rest y : Int32} : goD g c fl n rest y 0 = g 0 := by
  unfold goD
  split
  · split
    · rfl
    · exact lo_moves (by omega)
  · split
    · exact lo_moves (by omega)
    · split
      · exact lo_moves (by omega)
      · rw [lo_moves (by omega), up_ne (by omega)]
theorem k_move (hT : Tok t nf) (C : CO h a ct nr g c) (I : Inv ct nc nf nr m g) (hc : c < nc) (P : PO h o nr f) (hd : hI h o 3 = tellsT t 3) (D : DR f g c nr (hI h a 13) (hI h a 14)) (ha : a < o + 8) (ha2 : o < a) : CI l x mX2_move 1 0 0 [.ref a, .ref o, .int (parksC g t (min 8 m) c)] h (fun v h' => MP f g t ct nr nf m c a h v h') := by
  have hC := I.hc
  have hR := I.hr
  have hF12 := I.hF
  have wyE : stepG g c (16 + 8 * c + 1) = g (16 + 8 * c + 1) := by
    unfold stepG
    split
    · rfl
    · rw [up_ne (by omega)]
  have parE : parksC (stepG g c) t (min 8 m) c = parksC g t (min 8 m) c := by
    unfold stepG
    split
    · rfl
    · have pk : ∀ n v, n ≤ 8 → pkA (up g (16 + 8 * c + 2) v) n = pkA g n := by
        intro n v hn
        induction n with
        | zero => rfl
        | succ n ih =>
          have ih := ih (by omega)
          unfold pkA
          rw [ih, up_ne (by omega)]
      unfold parksC peakC
      rw [pk _ _ (by omega), up_ne (by omega)]
  have floE : flo (stepG g c) c = flo g c := by
    unfold flo stepG
    split
    · rfl
    · rw [up_ne (by omega)]
  have lodE : lod (stepG g c) c = lod g c := by
    unfold lod stepG
    split
    · rfl
    · rw [up_ne (by omega)]
  have s5 : stepG g c 5 = g 5 := lo_stG (by omega)
  have s0 : stepG g c 0 = g 0 := lo_stG (by omega)
  have I1 := I.i_stepG hc
  obtain ⟨f1, f2⟩ := I1.i_flo hc
  -- what is done behind the doors
  have rest : ∀ (h1 : PH), CO h1 a ct nr (stepG g c) c → DR f (stepG g c) c nr (hI h1 a 13) (hI h1 a 14) → Fr1 a h h1 → hI h1 a 8 = hI h a 8 → hI h1 a 13 = hI h a 13 → hI h1 a 14 = hI h a 14 → stepG g c (16 + 8 * c + 2) ≤ 0 →
      ∃ (q3 : Int32 → PH → Prop), CI l x mX2_hasStop 0 0 0 [.ref a, .int (hI h a 4)] h1 q3 ∧ ∀ (r6 : Int32) (h5 : PH), q3 r6 h5 → ((hK h5 a).1 = 2) ∧ ∃ (q7 : Int32 → PH → Prop), CI l x mX2_opensHere 0 0 0 [.ref a, .int r6] h5 q7 ∧ ∀ (r11 : Int32) (h10 : PH), q7 r11 h10 → ((¬ r11 = 0 → ((hK h10 a).1 = 2) ∧ ∃ (q13 : PH → Prop), CV l x mX2_letOut 0 0 0 [.ref a, .ref o] h10 q13 ∧ ∀ (h16 : PH), q13 h16 → ((hK h16 a).1 = 2) ∧ ∃ (q18 : Int32 → PH → Prop), CI l x mX2_hasStop 0 0 0 [.ref a, .int (hI h16 a 4)] h16 q18 ∧ ∀ (r21 : Int32) (h20 : PH), q18 r21 h20 → ((hK h20 a).1 = 2) ∧ ∃ (q22 : Int32 → PH → Prop), CI l x mX2_calledWay 0 0 0 [.ref a, .int r21] h20 q22 ∧ ∀ (r26 : Int32) (h25 : PH), q22 r26 h25 → ((r26 = 0 → ((hK h25 a).1 = 2) ∧ ∃ (q28 : Int32 → PH → Prop), CI l x mX2_hasStop 0 0 0 [.ref a, .int 1] h25 q28 ∧ ∀ (r32 : Int32) (h31 : PH), q28 r32 h31 → ((hK h31 a).1 = 2) ∧ ∃ (q33 : Int32 → PH → Prop), CI l x mX2_hasStop 0 0 0 [.ref a, .int (-1)] h31 q33 ∧ ∀ (r37 : Int32) (h36 : PH), q33 r37 h36 → ((hK h36 a).1 = 2) ∧ ∃ (q38 : Int32 → PH → Prop), CI l x mX2_onward 0 0 0 [.ref a, .int r32, .int r37] h36 q38 ∧ ∀ (r42 : Int32) (h41 : PH), q38 r42 h41 → ((hK h41 a).1 = 2) ∧ ∃ (q44 : PH → Prop), CV l x mX2_takeIn 0 0 0 [.ref a, .ref o] (sI h41 a 4 r42) q44 ∧ ∀ (h46 : PH), q44 h46 → ((hK h46 o).1 = 1) ∧ ((hK h46 a).1 = 2) ∧ (vf_n32 (FP.fadd (hF h46 a 7) 1053609165)) ∧ ((1 : Int32) = 0 ∨ (1 : Int32) = 1) ∧ ∃ r, some (Value.int 1) = some (.int r) ∧ MP f g t ct nr nf m c a h r (sF (sI h46 a 5 (hI h46 o 3)) a 7 (FP.fadd (hF h46 a 7) 1053609165))) ∧ (¬ r26 = 0 → ((hK h25 a).1 = 2) ∧ ∃ (q51 : PH → Prop), CV l x mX2_takeIn 0 0 0 [.ref a, .ref o] (sI h25 a 4 r26) q51 ∧ ∀ (h53 : PH), q51 h53 → ((hK h53 o).1 = 1) ∧ ((hK h53 a).1 = 2) ∧ (vf_n32 (FP.fadd (hF h53 a 7) 1053609165)) ∧ ((1 : Int32) = 0 ∨ (1 : Int32) = 1) ∧ ∃ r, some (Value.int 1) = some (.int r) ∧ MP f g t ct nr nf m c a h r (sF (sI h53 a 5 (hI h53 o 3)) a 7 (FP.fadd (hF h53 a 7) 1053609165))))) ∧ (r11 = 0 → ((hK h10 a).1 = 2) ∧ ∃ (q57 : Int32 → PH → Prop), CI l x mX2_hasStop 0 0 0 [.ref a, .int 1] h10 q57 ∧ ∀ (r61 : Int32) (h60 : PH), q57 r61 h60 → ((hK h60 a).1 = 2) ∧ ∃ (q62 : Int32 → PH → Prop), CI l x mX2_hasStop 0 0 0 [.ref a, .int (-1)] h60 q62 ∧ ∀ (r66 : Int32) (h65 : PH), q62 r66 h65 → ((hK h65 a).1 = 2) ∧ ∃ (q67 : Int32 → PH → Prop), CI l x mX2_onward 0 0 0 [.ref a, .int r61, .int r66] h65 q67 ∧ ∀ (r71 : Int32) (h70 : PH), q67 r71 h70 → ((hK h70 a).1 = 2) ∧ ∃ (q73 : PH → Prop), CV l x mX2_go 0 0 0 [.ref a, .int (parksC g t (min 8 m) c)] (sI h70 a 4 r71) q73 ∧ ∀ (h75 : PH), q73 h75 → ((0 : Int32) = 0 ∨ (0 : Int32) = 1) ∧ ∃ r, some (Value.int 0) = some (.int r) ∧ MP f g t ct nr nf m c a h r h75)) := by
    intro h1 C1 D1 F1 e8 e13 e14 ed
    have P1 := P.fr F1 (by omega) (by omega) hR
    have way := (I1.cars c hc).wy
    rw [C.1.wy, ← wyE]
    refine ⟨_, k_hasStop C1 I1 hc way, ?_⟩
    rintro _ _ ⟨rfl, rfl⟩
    refine ⟨C1.1.ck, _, k_opensHere C1 I1 hc, ?_⟩
    rintro _ _ ⟨rfl, rfl⟩
    have vE : stV nr nf c g = opensHereC (stepG g c) nr nf c (flo (stepG g c) c) := by
      unfold stV stepV
      rw [if_pos ed, floE]
    refine ⟨fun eo => ⟨C1.1.ck, _, k_letOut C1 I1 hc P1 D1 ha ha2, ?_⟩, fun eo => ⟨C1.1.ck, _, k_hasStop C1 I1 hc (Or.inr (Or.inl rfl)), ?_⟩⟩
    · rintro h2 ⟨k2, C2, D2⟩
      have I2 : Inv ct nc nf nr m (opG (stepG g c) c (flo (stepG g c) c) nr) := I1.i_opA hc nr (Nat.le_refl _)
      have P2 := P1.fr k2.1 (by omega) (by omega) hR
      have flo2 : flo (opG (stepG g c) c (flo (stepG g c) c) nr) c = flo (stepG g c) c := by
        unfold flo
        rw [opG_lo (by omega) (by omega) (by omega)]
      have sR : stR t ct nr nf m c g = opEnd t ct (opH (stepG g c) ct nr nf c (flo (stepG g c) c)) c (flo (stepG g c) c) (opW (opG (stepG g c) c (flo (stepG g c) c) nr) nr nf c (flo (stepG g c) c)) := by
        unfold stR stepR
        rw [if_pos ed, ← floE, if_neg eo]
        rfl
      have oW := opW_eq I2 hc (fl := flo (stepG g c) c)
      have w3 := I2.i_opW (fl := flo (stepG g c) c) hc
      have tk : ∀ (h3 : PH) (w : Int32), h3 = h2 → w = opW (opG (stepG g c) c (flo (stepG g c) c) nr) nr nf c (flo (stepG g c) c) → ∃ (q44 : PH → Prop), CV l x mX2_takeIn 0 0 0 [.ref a, .ref o] (sI h3 a 4 w) q44 ∧ ∀ (h46 : PH), q44 h46 → ((hK h46 o).1 = 1) ∧ ((hK h46 a).1 = 2) ∧ (vf_n32 (FP.fadd (hF h46 a 7) 1053609165)) ∧ ((1 : Int32) = 0 ∨ (1 : Int32) = 1) ∧ ∃ r, some (Value.int 1) = some (.int r) ∧ MP f g t ct nr nf m c a h r (sF (sI h46 a 5 (hI h46 o 3)) a 7 (FP.fadd (hF h46 a 7) 1053609165)) := by
        intro h3 w eh ew
        subst eh
        subst ew
        generalize hW : opW (opG (stepG g c) c (flo (stepG g c) c) nr) nr nf c (flo (stepG g c) c) = W at *
        have C3 := C2.setWy (w := W) (by omega) hR
        have I3 := I2.setWy hc w3
        have P3 := P2.fr ((Fr1.refl a h3).sI 4 W) (by omega) (by omega) hR
        have D3 : DR f (up (opG (stepG g c) c (flo (stepG g c) c) nr) (16 + 8 * c + 1) W) c nr (hI (sI h3 a 4 W) a 13) (hI (sI h3 a 4 W) a 14) := by
          rw [gIk _ _ _ (by decide), gIk _ _ _ (by decide)]
          exact D2.same (up_ne (by omega)) (fun r hr k hk => up_ne (by omega))
        refine ⟨_, k_takeIn C3 I3 hc P3 D3 ha ha2, ?_⟩
        rintro h4 ⟨k4, C4, D4⟩
        have flo3 : flo (up (opG (stepG g c) c (flo (stepG g c) c) nr) (16 + 8 * c + 1) W) c = flo (stepG g c) c := by
          refine Eq.trans ?_ flo2
          exact congrArg Int32.toNatClampNeg (up_ne (by omega))
        rw [flo3, up_eq] at C4 D4
        have eT : tiC ct (up (opG (stepG g c) c (flo (stepG g c) c) nr) (16 + 8 * c + 1) W) c (flo (stepG g c) c) nr W = opX ct (opH (stepG g c) ct nr nf c (flo (stepG g c) c)) c (flo (stepG g c) c) W := by
          unfold tiC opH
          rw [hW]
        rw [eT] at C4 D4
        have P4 := P3.fr k4.1 (by omega) (by omega) hR
        have fr4 : Fr1 a h h4 := (F1.trans k2.1).trans (((Fr1.refl a h3).sI 4 W).trans k4.1)
        have hd4 : hI h4 o 3 = tellsT t 3 := (fr4.hI (by omega) 3).trans hd
        have C5 := (C4.setDr (w := tellsT t 3) (by omega) hR).setWk (b := 1053609165) (by omega) hR
        rw [hF_sI] at C5
        have IB : Inv ct nc nf nr m (opX ct (opH (stepG g c) ct nr nf c (flo (stepG g c) c)) c (flo (stepG g c) c) W) := by
          have : Inv ct nc nf nr m (opH (stepG g c) ct nr nf c (flo (stepG g c) c)) := by
            unfold opH
            rw [hW]
            exact I3.i_opB hc nr (Nat.le_refl _)
          exact this.i_opX (by omega)
        have fk : Fok (hF h4 a 7) := by rw [C4.1.wk]; exact (IB.cars c hc).wk
        refine ⟨P4.1.k, C4.1.ck, Fok.n (fadd_ok fk (by show (1053609165 : UInt32).toNat ≤ _; decide)), Or.inr rfl, 1, rfl, ?_⟩
        rw [hd4]
        have sR2 : stR t ct nr nf m c g = worksC (up (opX ct (opH (stepG g c) ct nr nf c (flo (stepG g c) c)) c (flo (stepG g c) c) W) (16 + 8 * c + 2) (tellsT t 3)) c 1053609165 := sR
        refine ⟨?_, (fr4.sI _ _).sF _ _, ?_, ?_, ⟨0, ?_, ?_⟩, fun q => absurd q (by decide), ?_⟩
        · rw [vE]
          rcases oh_01 (stepG g c) nr nf c (flo (stepG g c) c) with z | z
          · exact absurd z eo
          · exact z.symm
        · rw [sR2]; exact C5
        · rw [sR2, hI_sF, hI_sF, gIk _ _ _ (by decide), gIk _ _ _ (by decide)]
          unfold worksC
          exact D4.same (by rw [up_ne (by omega), up_ne (by omega)]) (fun r hr k hk => by rw [up_ne (by omega), up_ne (by omega)])
        · rw [hI_sF, gIk _ _ _ (by decide), Int32.add_zero, k4.2.1, gIk _ _ _ (by decide), k2.2.1, e8]
        · rw [Int32.add_zero, ← s5]
          have := lo_opens (f := stepG g c) (t := t) (ct := ct) (nr := nr) (nf := nf) (c := c) (fl := flo (stepG g c) c) (j := 5) (by omega)
          rw [← this, sR]
          unfold opensC
          rw [hW]
        · intro z14 z13 r hr hb
          rw [hI_sF, gIk _ _ _ (by decide)] at hb ⊢
          rw [k4.2.2, gIk _ _ _ (by decide)] at hb
          have j0 : hI h3 a 14 = 0 := k2.2.2.trans (e14.trans z14)
          have w2 : f (48 + 9 * r + 4) = 2 := by
            rcases D2.ll r hr hb with q | q
            · rw [j0, b_0] at q; cases q
            · exact q
          cases q : bt (hI h4 a 14) r with
          | false => rfl
          | true =>
            have := D4.jj r hr q
            rw [w2] at this
            exact absurd this (by decide)
      refine ⟨C2.1.ck, ?_⟩
      rw [C2.1.wy]
      refine ⟨_, k_hasStop C2 I2 hc (I2.cars c hc).wy, ?_⟩
      rintro _ _ ⟨rfl, rfl⟩
      refine ⟨C2.1.ck, _, k_calledWay C2.1 I2 hc, ?_⟩
      rintro _ _ ⟨rfl, rfl⟩
      rw [flo2]
      refine ⟨fun e0 => ⟨C2.1.ck, _, k_hasStop C2 I2 hc (Or.inr (Or.inl rfl)), ?_⟩, fun e0 => ⟨C2.1.ck, tk _ _ rfl (by rw [oW, if_neg e0])⟩⟩
      rintro _ _ ⟨rfl, rfl⟩
      refine ⟨C2.1.ck, _, k_hasStop C2 I2 hc (Or.inr (Or.inr rfl)), ?_⟩
      rintro _ _ ⟨rfl, rfl⟩
      refine ⟨C2.1.ck, _, k_onward C2.1 I2 hc, ?_⟩
      rintro _ _ ⟨rfl, rfl⟩
      exact ⟨C2.1.ck, tk _ _ rfl (by rw [oW, if_pos e0])⟩
    · rintro _ _ ⟨rfl, rfl⟩
      refine ⟨C1.1.ck, _, k_hasStop C1 I1 hc (Or.inr (Or.inr rfl)), ?_⟩
      rintro _ _ ⟨rfl, rfl⟩
      refine ⟨C1.1.ck, _, k_onward C1.1 I1 hc, ?_⟩
      rintro _ _ ⟨rfl, rfl⟩
      have gw := I1.i_goW hc
      have gw3 : goW (stepG g c) nr nf c = 0 ∨ goW (stepG g c) nr nf c = 1 ∨ goW (stepG g c) nr nf c = -1 := by
        rcases gw with q | q | q
        · exact Or.inl q
        · exact Or.inr (Or.inl q.1)
        · exact Or.inr (Or.inr q.1)
      have C3 := C1.setWy (w := goW (stepG g c) nr nf c) (by omega) hR
      have I3 := I1.setWy hc gw3
      refine ⟨C1.1.ck, _, k_go C3 I3 hc, ?_⟩
      rintro h4 ⟨C4, d, gp, e5⟩
      have flo3 : flo (up (stepG g c) (16 + 8 * c + 1) (goW (stepG g c) nr nf c)) c = flo (stepG g c) c := by
        unfold flo
        rw [up_ne (by omega)]
      have lod3 : lod (up (stepG g c) (16 + 8 * c + 1) (goW (stepG g c) nr nf c)) c = lod (stepG g c) c := by
        unfold lod
        rw [up_ne (by omega)]
      rw [flo3, lod3, up_eq] at C4 e5
      have park3 : parksC (up (stepG g c) (16 + 8 * c + 1) (goW (stepG g c) nr nf c)) t (min 8 m) c = parksC g t (min 8 m) c := by
        rw [← parE]
        have pk : ∀ (u : Nat → Int32) n v, n ≤ 8 → pkA (up u (16 + 8 * c + 1) v) n = pkA u n := by
          intro u n v hn
          induction n with
          | zero => rfl
          | succ n ih =>
            have ih := ih (by omega)
            unfold pkA
            rw [ih, up_ne (by omega)]
        unfold parksC peakC
        rw [pk _ _ _ (by omega), up_ne (by omega)]
      have sR : stR t ct nr nf m c g = goD (up (stepG g c) (16 + 8 * c + 1) (goW (stepG g c) nr nf c)) c (flo (stepG g c) c) (lod (stepG g c) c) (parksC g t (min 8 m) c) (goW (stepG g c) nr nf c) := by
        unfold stR stepR
        rw [if_pos ed, ← floE, if_pos eo, ← lodE, ← park3]
        rfl
      refine ⟨Or.inl rfl, 0, rfl, ?_, F1.trans (((Fr1.refl a _).sI 4 _).trans gp.1), ?_, ?_, ⟨d, ?_, ?_⟩, fun _ => ⟨?_, ?_⟩, ?_⟩
      · rw [vE, eo]
      · rw [sR]; exact C4
      · rw [sR, gp.2.1, gp.2.2.1, gIk _ _ _ (by decide), gIk _ _ _ (by decide)]
        exact D1.same (by rw [goD_0, up_ne (by omega)]) (fun r hr k hk => by rw [goD_rid (by omega), up_ne (by omega)])
      · rw [gp.2.2.2, gIk _ _ _ (by decide), e8]
      · rw [sR, e5, up_ne (by omega), s5]
      · rw [gp.2.1, gIk _ _ _ (by decide), e13]
      · rw [gp.2.2.1, gIk _ _ _ (by decide), e14]
      · intro z14 z13 r hr hb
        rw [gp.2.1, gIk _ _ _ (by decide), e13, z13, b_0] at hb
        cases hb
  refine Cm.of (by decide) (Nat.le_of_ble_eq_true rfl) (vX2_move_0 ⟨C.1.ck, fun e => ?_, fun e => ⟨fun e2 => ?_, fun e2 => ?_⟩⟩)
  · rw [C.1.dr] at e
    have sE : stepG g c = g := by unfold stepG; rw [if_pos e]
    exact rest h (by rw [sE]; exact C) (by rw [sE]; exact D) (Fr1.refl _ _) rfl rfl rfl (by rw [sE]; exact e)
  · rw [C.1.dr] at e
    rw [gI, C.1.dr] at e2
    have sE : stepG g c = up g (16 + 8 * c + 2) (g (16 + 8 * c + 2) - 1) := by unfold stepG; rw [if_neg e]
    rw [C.1.dr]
    refine rest _ (by rw [sE]; exact C.setDr (by omega) hR) ?_ ((Fr1.refl _ _).sI _ _) (gIk _ _ _ (by decide)) (gIk _ _ _ (by decide)) (gIk _ _ _ (by decide)) (by rw [sE, up_eq]; exact e2)
    rw [sE, gIk _ _ _ (by decide), gIk _ _ _ (by decide)]
    exact D.same (up_ne (by omega)) (fun r hr k hk => up_ne (by omega))
  · rw [C.1.dr] at e
    rw [gI, C.1.dr] at e2
    have sE : stepG g c = up g (16 + 8 * c + 2) (g (16 + 8 * c + 2) - 1) := by unfold stepG; rw [if_neg e]
    have ed : ¬ stepG g c (16 + 8 * c + 2) ≤ 0 := by rw [sE, up_eq]; exact e2
    have sR : stR t ct nr nf m c g = stepG g c := by
      unfold stR stepR
      rw [if_neg ed]
    rw [C.1.dr]
    refine ⟨Or.inl rfl, 0, rfl, ?_, (Fr1.refl _ _).sI _ _, ?_, ?_, ⟨0, ?_, ?_⟩, fun _ => ⟨gIk _ _ _ (by decide), gIk _ _ _ (by decide)⟩, ?_⟩
    · unfold stV stepV
      rw [if_neg ed]
    · rw [sR, sE]; exact C.setDr (by omega) hR
    · rw [sR, sE, gIk _ _ _ (by decide), gIk _ _ _ (by decide)]
      exact D.same (up_ne (by omega)) (fun r hr k hk => up_ne (by omega))
    · rw [gIk _ _ _ (by decide), Int32.add_zero]
    · rw [sR, s5, Int32.add_zero]
    · intro z14 z13 r hr hb
      rw [gIk _ _ _ (by decide), z13, b_0] at hb
      cases hb
end CarMove
