/-! THE CLASS: a car is emptied; fire; a rider comes -/
section Bank7
variable {l : Launch} {x : CX} {h h' : PH} {o a c nc nf nr m : Nat} {f f' g g' u t ct : Nat → Int32}
theorem BR.one {d : Int32} (R : BR h o t ct nc nf nr g) (hC : nc ≤ 4) (hR : nr ≤ 24) (hc : c < nc) (f1 : Fr1 (o + 4 + c) h h') (C : CO h' (o + 4 + c) ct nr g' c) (lo : ∀ j, j < 16 → j ≠ 5 → g' j = g j) (oth : ∀ c', c' < nc → c' ≠ c → ∀ k, k < 8 → g' (16 + 8 * c' + k) = g (16 + 8 * c' + k)) (ri : ∀ r, r < nr → ∀ k, k < 9 → g' (48 + 9 * r + k) = g (48 + 9 * r + k)) (ca : ∀ i, i < 48 → g' (264 + i) = g (264 + i)) (d1 : hI h' (o + 4 + c) 8 = hI h (o + 4 + c) 8 + d) (d2 : g' 5 = g 5 + d) : BR h' o t ct nc nf nr g' := by
  have S := R.s.fr f1
  refine R.mk' S (fun k _ => f1.hI (by omega) k) ?_ lo (fun c' hc' => ?_) (fun r hr => ((R.ri r hr).ac (f1.ac (by omega))).row (ri r hr)) ?_
  · rw [f1.hI (by omega), R.fi, cnt_same (fun r hr => ri r hr 4 (by omega))]
  · by_cases e : c' = c
    · rw [e]; exact C
    · have ac := f1.ac (b := o + 4 + c') (by omega)
      refine (R.ca c' hc').oth (S.lc c' (by omega)).2 (fun k => (ac.2 k).1) (fun k => (ac.2 k).2.2.1) (ac.2 11).2.1 (oth c' hc' e) (fun r hr => ri r hr 3 (by omega)) fun i hi => ?_
      rw [(ac.2 12).2.1, (R.ca c' hc').1.ca i hi]
      constructor
      · rintro ⟨z1, z2⟩
        exact ⟨z1, (ca i z1).trans z2⟩
      · rintro ⟨z1, z2⟩
        exact ⟨z1, (ca i z1).symm.trans z2⟩
  · rw [ps_add (h := h) (d := d) hc d1 (fun c' hn => f1.hI (by omega) 8) nc, if_pos hc, R.pa, d2]
theorem k_putOut (R : BR h o t ct nc nf nr g) (I : Inv ct nc nf nr m g) (hc : c < nc) : CV l x mX1_putOut 1 0 0 [.ref o, .ref (o + 4 + c)] h (fun h' => FrB o h h' ∧ BR h' o t ct nc nf nr (emptiesC g c nr)) := by
  have hC := I.hc
  have h24 := I.hr
  have S := R.s
  have C := R.ca c hc
  have loop : ∀ (j r : Nat) (hr : PH), r + j = nr → RM h hr o nr g (emptiesC g c nr) r → Gm l x mX1_putOut 1 2 [(0, .ref o), (1, .ref (o + 4 + c)), (2, .int (nI r))] [] hr 0 0 (hN h) (fun v h' => v = none ∧ FrB o h h' ∧ BR h' o t ct nc nf nr (emptiesC g c nr)) (fun _ _ => False) := by
    intro j
    induction j with
    | zero =>
      intro r hr hj M
      obtain rfl : r = nr := by omega
      have S1 := S.frb M.1
      have acc := M.2.1 (o + 4 + c) (by omega) (by omega)
      have fin : ∀ h' : PH, Fr1 (o + 4 + c) hr h' → hI h' (o + 4 + c) 9 = 0 → hI h' (o + 4 + c) 10 = 0 → hL h' (o + 4 + c) 11 = 0 → (∀ k, k < 9 → hI h' (o + 4 + c) k = hI hr (o + 4 + c) k) → hF h' (o + 4 + c) 7 = hF hr (o + 4 + c) 7 → hL h' (o + 4 + c) 12 = hL hr (o + 4 + c) 12 → (none : Option Value) = none ∧ FrB o h h' ∧ BR h' o t ct nc nf r (emptiesC g c r) := by
        intro h' fr e9 e10 e11 ek e7 e12
        have S2 := S1.fr fr
        refine ⟨rfl, M.1.trans (fr.frb (by omega) (by omega)), R.mk' S2 (fun k hk => (fr.hI (by omega) k).trans (M.2.2.1 k hk)) ?_ (fun j h1 h5 => em_lo (by omega) (by omega)) (fun c' hc' => ?_) (fun r' hr' => ((M.2.2.2.2 r' hr').1 hr').ac (fr.ac (by omega))) ?_⟩
        · rw [fr.hI (by omega), M.2.2.2.1, cnt_full]
        · by_cases e : c' = c
          · subst e
            obtain ⟨⟨q1, q2, q3, q4, q5, q6, q7, q8, q9, q10, q11, q12⟩, G⟩ := C.ac acc
            refine ⟨⟨(S2.lc c' (by omega)).2, ?_, ?_, ?_, ?_, ?_, ?_, ?_, ?_, ?_, ?_, fun i hi => ?_⟩, fun i hi _ => ?_⟩
            · rw [ek 0 (by omega)]; exact q2
            · rw [ek 1 (by omega), em_lo (by omega) (by omega)]; exact q3
            · rw [ek 2 (by omega), em_lo (by omega) (by omega)]; exact q4
            · rw [ek 3 (by omega), em_lo (by omega) (by omega)]; exact q5
            · rw [ek 4 (by omega), em_lo (by omega) (by omega)]; exact q6
            · rw [ek 5 (by omega), em_lo (by omega) (by omega)]; exact q7
            · rw [ek 6 (by omega), em_lo (by omega) (by omega)]; exact q8
            · rw [e7, em_lo (by omega) (by omega)]; exact q9
            · rw [e9, em_ab]
            · rw [e10, em_ab]; decide
            · rw [e12, em_hi (by omega) (by omega) h24]; exact q12 i hi
            · rw [e11, bL_0, em_ab]
              refine ⟨(fun q => by cases q), ?_⟩
              rintro ⟨r', z1, z2, z3⟩
              rw [b_0] at z2
              cases z2
          · have ac := (M.2.1 (o + 4 + c') (by omega) (by omega)).trans (fr.ac (b := o + 4 + c') (by omega))
            refine (R.ca c' hc').oth (S2.lc c' (by omega)).2 (fun k => (ac.2 k).1) (fun k => (ac.2 k).2.2.1) (ac.2 11).2.1 (fun k hk => em_lo (by omega) (by omega)) (fun r' hr' => ?_) fun i hi => ?_
            · rw [em_r (by omega) (by omega) hr' h24]
              unfold emV
              simp
            · rw [(ac.2 12).2.1, em_hi (by omega) (by omega) h24]
              exact (R.ca c' hc').1.ca i hi
        · rw [em_lo (by omega) (by omega), ← R.pa]
          refine ps_eq (fun c' hc' => ?_) nc (Nat.le_refl _)
          by_cases e : c' = c
          · rw [e, ek 8 (by omega)]; exact (acc.2 8).1
          · rw [fr.hI (by omega)]; exact ((M.2.1 (o + 4 + c') (by omega) (by omega)).2 8).1
      refine vX1_putOut_2 ⟨S1.k, fun _ => ⟨(S1.lc c (by omega)).2, _, Cm.of (by decide) (Nat.le_of_ble_eq_true rfl) (vX2_empty_0 (Q := fun v h' => v = none ∧ FrB o h h' ∧ BR h' o t ct nc nf r (emptiesC g c r)) ⟨(S1.lc c (by omega)).2, fin _ ?_ ?_ ?_ ?_ ?_ ?_ ?_⟩), fun h6 q => ⟨rfl, q⟩⟩, fun e => absurd ?_ e⟩
      · exact (((((Fr1.refl _ _).sI _ _).sI _ _).sL _ _).sI _ _).sI _ _
      · simp (disch := decide) only [hI_sL, gI, gIk]
      · simp (disch := decide) only [hI_sL, gI, gIk]
      · simp (disch := decide) only [hL_sI, gL]
      · intro k hk
        rw [gIk _ _ _ (by omega), gIk _ _ _ (by omega), hI_sL, gIk _ _ _ (by omega), gIk _ _ _ (by omega)]
      · rfl
      · simp (disch := decide) only [hL_sI, gLk]
      · rw [M.2.2.1 2 (by omega), R.nr]
        exact nI_le (Nat.le_refl _) (by omega)
    | succ j ih =>
      intro r hr hj M
      have S1 := S.frb M.1
      have acc := M.2.1 (o + 4 + c) (by omega) (by omega)
      have C1 := (C.ac acc).1
      have pr := S1.pr r (by omega)
      have ro := (M.2.2.2.2 r (by omega)).2 (Nat.le_refl _)
      have er := fun k (hk : k < 9) => em_r (f := g) (nr := nr) (c := c) (r := r) (k := k) (by omega) hk (by omega) h24
      have cm := cnt_mix (f := g) (g := emptiesC g c nr) (v := 3) (nr := nr) (r := r) (by omega)
      refine vX1_putOut_2 ⟨S1.k, fun e => absurd e ?_, fun _ => ⟨(S1.lc c (by omega)).2, fun e1 => ?_, fun e1 => ?_⟩⟩
      · rw [M.2.2.1 2 (by omega), R.nr]
        exact nI_ge (by omega) (by omega)
      · rw [C1.ab, ius_bit (by omega)] at e1
        rw [nI_1]
        refine ih (r + 1) hr (by omega) (M.skip (by omega) fun k hk => ?_)
        rw [er k hk, e1, if_neg (by decide)]
      have eb : bt (g (16 + 8 * c + 3)) r = true := by
        rw [C1.ab] at e1
        cases q : bt (g (16 + 8 * c + 3)) r with
        | true => rfl
        | false => exact absurd ((ius_bit (by omega)).mpr q) e1
      have w2 := (I.abo c hc r (by omega) eb).2.1
      have er2 : ∀ k, k < 9 → emptiesC g c nr (48 + 9 * r + k) = emV g r (g (16 + 8 * c)) k := fun k hk => by rw [er k hk, if_pos eb]
      have vpi : vp_in (nI r) (hK hr (o + 2)).2 := by rw [S1.pk]; exact vp_in_nI (by omega) (by decide)
      have rE : hR hr (o + 2) (nI r).toNatClampNeg = some (o + 8 + r) := by rw [nI_clamp (by omega)]; exact pr.1
      refine ⟨o + 2, S1.p, by rw [S1.pk], vpi, o + 8 + r, rE, pr.2, fun e2 => ⟨vpi, o + 8 + r, rE, pr.2, ?_⟩, fun e2 => ⟨vpi, o + 8 + r, rE, ?_⟩⟩
      · rw [ro.to, C1.fl] at e2
        rw [C1.fl]
        refine ⟨_, k_waitAt (g := emptiesC g c nr) pr.2 ro ?_, ?_⟩
        · intro k hk
          rw [er2 k hk]
          unfold emV
          rw [if_neg e2]
        · rintro h2 ⟨fr2, ro2⟩
          rw [nI_1]
          refine ih (r + 1) h2 (by omega) (M.put (by omega) h24 (fr2.frb (by omega) (by omega)) (fun b h1 _ => fr2.ac h1) ro2 (fun k _ => fr2.hI (by omega) k) ?_)
          rw [fr2.hI (by omega), M.2.2.2.1]
          congr 1
          have w3 : emptiesC g c nr (48 + 9 * r + 4) = 1 := by
            rw [er2 4 (by omega)]
            unfold emV
            rw [if_neg e2]
            rfl
          rw [w2, w3, if_neg (by decide), if_neg (by decide)] at cm
          omega
      · rw [ro.to, C1.fl] at e2
        have t7 : hI hr o 7 = g 0 := (M.2.2.1 7 (by omega)).trans R.ti
        refine ⟨_, k_finish (g := emptiesC g c nr) rfl S1 (by omega) ro ?_, ?_⟩
        · intro k hk
          rw [er2 k hk, t7]
          unfold emV
          rw [if_pos e2]
        · rintro h2 ⟨fb2, ac2, ro2, ek2, e122⟩
          rw [nI_1]
          refine ih (r + 1) h2 (by omega) (M.put (by omega) h24 fb2 ac2 ro2 ek2 ?_)
          rw [e122, M.2.2.2.1, nI_1]
          congr 1
          have w3 : emptiesC g c nr (48 + 9 * r + 4) = 3 := by
            rw [er2 4 (by omega)]
            unfold emV
            rw [if_pos e2]
            rfl
          rw [w2, w3, if_neg (by decide), if_pos rfl] at cm
          omega
  exact Cm.of (by decide) (Nat.le_of_ble_eq_true rfl) (vX1_putOut_0 (loop nr 0 h (by omega) (RM.z R.fi R.ri)))
theorem BR.setDW {w : Int32} (R : BR h o t ct nc nf nr g) (hC : nc ≤ 4) (hR : nr ≤ 24) (hc : c < nc) : BR (sI (sI h (o + 4 + c) 5 0) (o + 4 + c) 4 w) o t ct nc nf nr (up (up g (16 + 8 * c + 2) 0) (16 + 8 * c + 1) w) := by
  refine R.one (d := 0) hC hR hc (((Fr1.refl _ _).sI _ _).sI _ _) (((R.ca c hc).setDr (by omega) hR).setWy (by omega) hR) ?_ ?_ ?_ ?_ ?_ ?_
  · intro j h1 h5
    rw [up_ne (by omega), up_ne (by omega)]
  · intro c' hc' hn k hk
    rw [up_ne (by omega), up_ne (by omega)]
  · intro r hr k hk
    rw [up_ne (by omega), up_ne (by omega)]
  · intro i hi
    rw [up_ne (by omega), up_ne (by omega)]
  · rw [gIk _ _ _ (by decide), gIk _ _ _ (by decide), Int32.add_zero]
  · rw [up_ne (by omega), up_ne (by omega), Int32.add_zero]
theorem k_flee (hT : Tok t nf) (R : BR h o t ct nc nf nr g) (I : Inv ct nc nf nr m g) : CV l x mX1_flee 2 0 0 [.ref o] h (fun h' => FrB o h h' ∧ BR h' o t ct nc nf nr (caA t ct nr nf m 1 (clK g 312) nc)) := by
  have hC := I.hc
  have hR := I.hr
  have hF12 := I.hF
  have Ik : Inv ct nc nf nr m (clK g 312) := I.i_clK 48 (by omega)
  have loop : ∀ (j c : Nat) (h0 : PH), c + j = nc → FrB o h h0 → BR h0 o t ct nc nf nr (caA t ct nr nf m 1 (clK g 312) c) → (∀ i, i < 48 → caA t ct nr nf m 1 (clK g 312) c (264 + i) = 0) → Gm l x mX1_flee 2 9 [(0, .ref o), (1, .int (nI c))] [] h0 0 0 (hN h) (fun v h' => v = none ∧ FrB o h h' ∧ BR h' o t ct nc nf nr (caA t ct nr nf m 1 (clK g 312) nc)) (fun _ _ => False) := by
    intro j
    induction j with
    | zero =>
      intro c h0 hj fb R0 _
      obtain rfl : c = nc := by omega
      refine vX1_flee_9 ⟨R0.s.k, fun _ => ⟨rfl, fb, R0⟩, fun e => absurd ?_ e⟩
      rw [R0.nc]
      exact nI_le (Nat.le_refl _) (by omega)
    | succ j ih =>
      intro c h0 hj fb R0 zk0
      have I0 := caA_ok (fire := 1) hT Ik c (by omega)
      have nE : caA t ct nr nf m 1 (clK g 312) (c + 1) = if caA t ct nr nf m 1 (clK g 312) c (16 + 8 * c + 4) = 0 then caA t ct nr nf m 1 (clK g 312) c else burnsC (caA t ct nr nf m 1 (clK g 312) c) c nr (lod (caA t ct nr nf m 1 (clK g 312) c) c) := by
        rw [caA, if_neg (show ¬ (1 : Int32) = 0 by decide)]
      generalize caA t ct nr nf m 1 (clK g 312) c = u at R0 I0 nE zk0
      have S := R0.s
      have lc := S.lc c (by omega)
      have C := R0.ca c (by omega)
      have next : ∀ h2 : PH, FrB o h h2 → BR h2 o t ct nc nf nr (caA t ct nr nf m 1 (clK g 312) (c + 1)) → (∀ i, i < 48 → caA t ct nr nf m 1 (clK g 312) (c + 1) (264 + i) = 0) → Gm l x mX1_flee 2 9 [(0, .ref o), (1, .int (nI c + 1))] [] h2 0 0 (hN h) (fun v h' => v = none ∧ FrB o h h' ∧ BR h' o t ct nc nf nr (caA t ct nr nf m 1 (clK g 312) nc)) (fun _ _ => False) := by
        intro h2 f2 R2 z2
        rw [nI_1]
        exact ih (c + 1) h2 (by omega) f2 R2 z2
      refine vX1_flee_9 ⟨S.k, fun e => absurd e ?_, fun _ => ⟨o + 1, S.l, by rw [S.lk], ?_, o + 4 + c, ?_, lc.2, fun e1 => ?_, fun e1 => ⟨fun e2 => ?_, fun e2 => ?_⟩⟩⟩
      · rw [R0.nc]
        exact nI_ge (by omega) (by omega)
      · rw [S.lk]; exact vp_in_nI (by omega) (by decide)
      · rw [nI_clamp (by omega)]; exact lc.1
      · rw [C.1.inn] at e1
        rw [if_pos e1] at nE
        exact next h0 fb (by rw [nE]; exact R0) (by rw [nE]; exact zk0)
      · rw [C.1.inn] at e1
        rw [if_neg e1] at nE
        rw [C.1.fl] at e2
        have bE : burnsC u c nr (lod u c) = emptiesC (up (up u (16 + 8 * c + 2) 0) (16 + 8 * c + 1) 0) c nr := if_pos e2
        have R1 := R0.setDW (w := 0) hC hR (by omega : c < nc)
        have I1 : Inv ct nc nf nr m (up (up u (16 + 8 * c + 2) 0) (16 + 8 * c + 1) 0) := (I0.setDr (n := 0) (by omega) rfl (by omega)).setWy (by omega) (Or.inl rfl)
        have f1 : Fr1 (o + 4 + c) h0 (sI (sI h0 (o + 4 + c) 5 0) (o + 4 + c) 4 0) := ((Fr1.refl _ _).sI _ _).sI _ _
        refine ⟨_, k_putOut R1 I1 (by omega), ?_⟩
        rintro h2 ⟨b2, R2⟩
        refine next h2 ((fb.trans (f1.frb (by omega) (by omega))).trans b2) (by rw [nE, bE]; exact R2) fun i hi => ?_
        rw [nE, bE, em_hi (by omega) (by omega) hR, up_ne (by omega), up_ne (by omega)]
        exact zk0 i hi
      · rw [C.1.inn] at e1
        rw [if_neg e1] at nE
        rw [C.1.fl] at e2
        have bE : burnsC u c nr (lod u c) = movesC (up (up u (16 + 8 * c + 2) 0) (16 + 8 * c + 1) (-1)) c (lod u c) (-1) := if_neg e2
        have R1 := R0.setDW (w := -1) hC hR (by omega : c < nc)
        have I1 : Inv ct nc nf nr m (up (up u (16 + 8 * c + 2) 0) (16 + 8 * c + 1) (-1)) := (I0.setDr (n := 0) (by omega) rfl (by omega)).setWy (by omega) (Or.inr (Or.inr rfl))
        have f1 : Fr1 (o + 4 + c) h0 (sI (sI h0 (o + 4 + c) 5 0) (o + 4 + c) 4 (-1)) := ((Fr1.refl _ _).sI _ _).sI _ _
        refine ⟨_, k_go (R1.ca c (by omega)) I1 (by omega), ?_⟩
        rintro h2 ⟨C2, d, gp, e5⟩
        have lE : lod (up (up u (16 + 8 * c + 2) 0) (16 + 8 * c + 1) (-1)) c = lod u c := by
          unfold lod
          rw [up_ne (by omega), up_ne (by omega)]
        have h0C : hasC (up (up u (16 + 8 * c + 2) 0) (16 + 8 * c + 1) (-1)) c (flo (up (up u (16 + 8 * c + 2) 0) (16 + 8 * c + 1) (-1)) c) (-1) = 0 := by
          obtain ⟨_, q2⟩ := I1.i_flo (by omega : c < nc)
          refine Classical.byContradiction fun q => ?_
          rcases has_dn.mp q with z | z
          · rw [up_ne (by omega), up_ne (by omega), zk0 _ (by omega)] at z
            exact nz1 c (by omega) z
          · rw [up_ne (by omega), up_ne (by omega), zk0 _ (by omega)] at z
            exact nz1 c (by omega) z
        have gE : goD (up (up u (16 + 8 * c + 2) 0) (16 + 8 * c + 1) (-1)) c (flo (up (up u (16 + 8 * c + 2) 0) (16 + 8 * c + 1) (-1)) c) (lod (up (up u (16 + 8 * c + 2) 0) (16 + 8 * c + 1) (-1)) c) 0 (up (up u (16 + 8 * c + 2) 0) (16 + 8 * c + 1) (-1) (16 + 8 * c + 1)) = burnsC u c nr (lod u c) := by
          rw [bE, up_eq, lE]
          unfold goD
          rw [if_neg (by decide), if_pos h0C]
          split <;> rfl
        rw [gE] at C2 e5
        have pl : ∀ j, j ≠ 16 + 8 * c → j ≠ 16 + 8 * c + 5 → burnsC u c nr (lod u c) j = up (up u (16 + 8 * c + 2) 0) (16 + 8 * c + 1) (-1) j := fun j h1 h2 => by rw [bE, pl_moves h1 h2]
        refine next h2 ((fb.trans (f1.frb (by omega) (by omega))).trans (gp.1.frb (by omega) (by omega))) ?_ fun i hi => ?_
        · rw [nE]
          exact R1.one (d := d) hC hR (by omega) gp.1 C2 (fun j h1 h5 => pl j (by omega) (by omega)) (fun c' hc' hn k hk => pl _ (by omega) (by omega)) (fun r hr k hk => pl _ (by omega) (by omega)) (fun i hi => pl _ (by omega) (by omega)) gp.2.2.2 e5
        · rw [nE, pl _ (by omega) (by omega), up_ne (by omega), up_ne (by omega)]
          exact zk0 i hi
  refine Cm.of (by decide) (Nat.le_of_ble_eq_true rfl) (vX1_flee_0 ⟨R.s.k, _, k_takeFromAll R.s R.nc hC, ?_⟩)
  intro h4 T
  refine loop nc 0 h4 (by omega) (T.frb hC) ?_ (fun i hi => if_pos (by omega))
  refine R.calls hC hR (T.s R.s) (fun q _ => T.2.2.2.1 o q) ?_ (fun b _ _ q => T.2.2.2.1 b q) (fun b _ _ q => T.2.2.2.2.1 b q) (fun c hc => (T.2.2.2.2.2 _ _).trans (if_neg (fun z => absurd z.1 (by decide)))) (fun j hj _ => if_neg (by omega)) ?_
  · rw [T.2.2.2.1, R.tu]
    exact (show clK g 312 4 = g 4 from if_neg (by omega)).symm
  · intro c hc i hi
    rw [T.bit hc hi, bL_m1 i hi, Bool.not_true, Bool.and_false]
    refine ⟨(fun q => by cases q), fun q => ?_⟩
    have z : clK g 312 (264 + i) = 0 := if_pos (by omega)
    have := q.2
    change clK g 312 (264 + i) = nI c + 1 at this
    rw [z] at this
    exact absurd this (nz1 c (by omega))
end Bank7
