/-! THE CLASS: all cars move -/
section Bank6
variable {l : Launch} {x : CX} {h h' : PH} {o a c nc nf nr m : Nat} {f f' g g' u t ct : Nat → Int32}
theorem DR.rfl' : DR f f c nr 0 0 := by
  refine ⟨rfl, fun r hr k hk => ?_, fun r _ q => ?_, fun r _ q => ?_⟩
  · rw [b_0]
    unfold rd
    split
    · rename_i e; rw [e]; rfl
    · split
      · rename_i e; rw [e]; rfl
      · split
        · rename_i e; rw [e]; rfl
        · split
          · rename_i e; rw [e]; rfl
          · rfl
  · rw [b_0] at q; cases q
  · rw [b_0] at q; cases q
theorem hi_opA {y : Int32} {j : Nat} (hc : c < 4) (hj : 264 ≤ j) : ∀ n, n ≤ 24 → opA g c y n j = g j
  | 0, _ => rfl
  | n + 1, h => by
    have ih := hi_opA (y := y) hc hj n (by omega)
    unfold opA offR arrivesR
    split
    · exact ih
    · split
      · rw [up_ne (by omega), up_ne (by omega), up_ne (by omega), up_ne (by omega)]; exact ih
      · exact ih
theorem hi_opB {y w : Int32} {j : Nat} (hc : c < 4) (hj : 264 ≤ j) : ∀ n, n ≤ 24 → opB ct g c y w n j = g j
  | 0, _ => rfl
  | n + 1, h => by
    have ih := hi_opB (y := y) (w := w) hc hj n (by omega)
    unfold opB onR onT
    split
    · split
      · rw [up_ne (by omega), up_ne (by omega), up_ne (by omega), up_ne (by omega)]; exact ih
      · rw [up_ne (by omega), up_ne (by omega), up_ne (by omega)]; exact ih
    · exact ih
theorem st_open (hc : c < 4) (hr : nr ≤ 24) (hv : ¬ stV nr nf c u = 0) : ∃ (w : Int32) (v : Nat → Int32), stR t ct nr nf m c u = worksC (up (opX ct v c (flo u c) w) (16 + 8 * c + 2) (tellsT t 3)) c 1053609165 ∧ (∀ i, v (264 + i) = u (264 + i)) ∧ v (16 + 8 * c + 1) = w ∧ v (16 + 8 * c) = u (16 + 8 * c) := by
  have ed : stepG u c (16 + 8 * c + 2) ≤ 0 := by
    by_cases q : stepG u c (16 + 8 * c + 2) ≤ 0
    · exact q
    · unfold stV stepV at hv
      rw [if_neg q] at hv
      exact absurd rfl hv
  have eo : ¬ opensHereC (stepG u c) nr nf c (flo u c) = 0 := by
    unfold stV stepV at hv
    rw [if_pos ed] at hv
    exact hv
  refine ⟨opW (opG (stepG u c) c (flo u c) nr) nr nf c (flo u c), opH (stepG u c) ct nr nf c (flo u c), ?_, fun i => ?_, ?_, ?_⟩
  · unfold stR stepR
    rw [if_pos ed, if_neg eo]
    rfl
  · unfold opH opG
    rw [hi_opB hc (by omega) nr hr, up_ne (by omega), hi_opA hc (by omega) nr hr, pl_stG (by omega)]
  · unfold opH
    rw [opB_lo hc (by omega) (by omega), up_eq]
  · unfold opH
    rw [opB_lo hc (by omega) (by omega), up_ne (by omega), opG_lo hc (by omega) (by omega), pl_stG (by omega)]
theorem st_shut {i : Nat} (hc : c < 4) (hv : stV nr nf c u = 0) : stR t ct nr nf m c u (264 + i) = u (264 + i) := by
  unfold stR stepR
  by_cases q : stepG u c (16 + 8 * c + 2) ≤ 0
  · rw [if_pos q]
    have eo : opensHereC (stepG u c) nr nf c (flo u c) = 0 := by
      unfold stV stepV at hv
      rw [if_pos q] at hv
      exact hv
    rw [if_pos eo, pl_goes (by omega) (by omega) (by omega) (by omega), pl_stG (by omega)]
  · rw [if_neg q, pl_stG (by omega)]
/-- the row's places of another car -/
theorem CO.oth {c' : Nat} (C : CO h a ct nr u c') (hK' : (hK h' a).1 = 2) (e : ∀ k, hI h' a k = hI h a k) (eF : ∀ k, hF h' a k = hF h a k) (e11 : hL h' a 11 = hL h a 11) (eg : ∀ k, k < 8 → g (16 + 8 * c' + k) = u (16 + 8 * c' + k)) (et : ∀ r, r < nr → g (48 + 9 * r + 3) = u (48 + 9 * r + 3)) (ca : ∀ i, i < 64 → (bL (hL h' a 12) i = true ↔ i < 48 ∧ g (264 + i) = nI c' + 1)) : CO h' a ct nr g c' := by
  have g0 : g (16 + 8 * c') = u (16 + 8 * c') := eg 0 (by omega)
  obtain ⟨⟨q1, q2, q3, q4, q5, q6, q7, q8, q9, q10, q11, q12⟩, G⟩ := C
  refine ⟨⟨hK', ?_, ?_, ?_, ?_, ?_, ?_, ?_, ?_, ?_, ?_, ca⟩, G.same e11 (eg 3 (by omega)) et⟩
  · rw [e]; exact q2
  · rw [e, eg 6 (by omega)]; exact q3
  · rw [e, eg 7 (by omega)]; exact q4
  · rw [e, g0]; exact q5
  · rw [e, eg 1 (by omega)]; exact q6
  · rw [e, eg 2 (by omega)]; exact q7
  · rw [e, eg 4 (by omega)]; exact q8
  · rw [eF, eg 5 (by omega)]; exact q9
  · rw [e, eg 3 (by omega)]; exact q10
  · rw [e, eg 3 (by omega)]; exact q11
theorem k_moveCars (hT : Tok t nf) (hct : CT ct nc) (R : BR h o t ct nc nf nr g) (I : Inv ct nc nf nr m g) : CV l x mX1_moveCars 2 0 0 [.ref o] h (fun h' => FrB o h h' ∧ BR h' o t ct nc nf nr (caA t ct nr nf m 0 g nc)) := by
  have hC := I.hc
  have hR := I.hr
  have hF12 := I.hF
  have loop : ∀ (j c : Nat) (h0 : PH), c + j = nc → FrB o h h0 → BR h0 o t ct nc nf nr (caA t ct nr nf m 0 g c) → Gm l x mX1_moveCars 2 2 [(0, .ref o), (1, .int (nI c))] [] h0 0 0 (hN h) (fun v h' => v = none ∧ FrB o h h' ∧ BR h' o t ct nc nf nr (caA t ct nr nf m 0 g nc)) (fun _ _ => False) := by
    intro j
    induction j with
    | zero =>
      intro c h0 hj fb R0
      obtain rfl : c = nc := by omega
      refine vX1_moveCars_2 ⟨R0.s.k, fun _ => ⟨rfl, fb, R0⟩, fun e => absurd ?_ e⟩
      rw [R0.nc]
      exact nI_le (Nat.le_refl _) (by omega)
    | succ j ih =>
      intro c h0 hj fb R0
      have I0 := caA_ok (fire := 0) hT I c (by omega)
      have nE : caA t ct nr nf m 0 g (c + 1) = if caA t ct nr nf m 0 g c (16 + 8 * c + 4) = 0 then caA t ct nr nf m 0 g c else stR t ct nr nf m c (caA t ct nr nf m 0 g c) := by
        rw [caA, if_pos rfl]
      generalize caA t ct nr nf m 0 g c = u at R0 I0 nE
      have S := R0.s
      have lc := S.lc c (by omega)
      have C := R0.ca c (by omega)
      have next : ∀ h2 : PH, FrB o h h2 → BR h2 o t ct nc nf nr (caA t ct nr nf m 0 g (c + 1)) → Gm l x mX1_moveCars 2 2 [(0, .ref o), (1, .int (nI c + 1))] [] h2 0 0 (hN h) (fun v h' => v = none ∧ FrB o h h' ∧ BR h' o t ct nc nf nr (caA t ct nr nf m 0 g nc)) (fun _ _ => False) := by
        intro h2 f2 R2
        rw [nI_1]
        exact ih (c + 1) h2 (by omega) f2 R2
      refine vX1_moveCars_2 ⟨S.k, fun e => absurd e ?_, fun _ => ⟨o + 1, S.l, by rw [S.lk], ?_, o + 4 + c, ?_, lc.2, fun e1 => ?_, fun e1 => ?_⟩⟩
      · rw [R0.nc]
        exact nI_ge (by omega) (by omega)
      · rw [S.lk]; exact vp_in_nI (by omega) (by decide)
      · rw [nI_clamp (by omega)]; exact lc.1
      · rw [C.1.inn] at e1
        rw [if_pos e1] at nE
        exact next h0 fb (by rw [nE]; exact R0)
      rw [C.1.inn] at e1
      rw [if_neg e1] at nE
      have f1 : Fr1 (o + 4 + c) h0 (sI (sI h0 (o + 4 + c) 13 0) (o + 4 + c) 14 0) := ((Fr1.refl _ _).sI _ _).sI _ _
      have C1 : CO (sI (sI h0 (o + 4 + c) 13 0) (o + 4 + c) 14 0) (o + 4 + c) ct nr u c := by
        refine C.copy lc.2 ?_ ?_ ?_ ?_ ?_ ?_ ?_ rfl ?_ ?_ rfl rfl
        all_goals rw [gIk _ _ _ (by decide), gIk _ _ _ (by decide)]
      have n13 : hI (sI (sI h0 (o + 4 + c) 13 0) (o + 4 + c) 14 0) (o + 4 + c) 13 = 0 := by rw [gIk _ _ _ (by decide), gI]
      have n14 : hI (sI (sI h0 (o + 4 + c) 13 0) (o + 4 + c) 14 0) (o + 4 + c) 14 = 0 := gI _ _ _ _
      have n8 : hI (sI (sI h0 (o + 4 + c) 13 0) (o + 4 + c) 14 0) (o + 4 + c) 8 = hI h0 (o + 4 + c) 8 := by rw [gIk _ _ _ (by decide), gIk _ _ _ (by decide)]
      generalize sI (sI h0 (o + 4 + c) 13 0) (o + 4 + c) 14 0 = h1 at f1 C1 n13 n14 n8
      have S1 := S.fr f1
      have P1 := R0.po'.fr f1 (by omega) (by omega) hR
      have D1 : DR u u c nr (hI h1 (o + 4 + c) 13) (hI h1 (o + 4 + c) 14) := by rw [n13, n14]; exact DR.rfl'
      refine ⟨_, k_restOf (g := u) (t := t) (m := m) (c := c) S1.k (S1.lc c (by omega)).2 (by rw [f1.hI (by omega), R0.ru, I0.i_mm]) C1.1.hm rfl, ?_⟩
      rintro _ _ ⟨rfl, rfl⟩
      refine ⟨(S1.lc c (by omega)).2, _, k_move hT C1 I0 (by omega) P1 ((f1.hI (by omega) 3).trans R0.dw) D1 (by omega) (by omega), ?_⟩
      rintro v h2 ⟨rfl, f2, C2, D2, ⟨d, d1, d2⟩, z2, dis⟩
      have f12 := f1.trans f2
      have S2 := S.fr f12
      have I2 := I0.i_stR (k := m) hT (by omega : c < nc)
      have dis' := dis n14 n13
      have lo : ∀ j, j < 16 → j ≠ 5 → stR t ct nr nf m c u j = u j := fun j h1 h5 => lo_stR h1 h5
      have oth : ∀ c', c' < nc → c' ≠ c → ∀ k, k < 8 → stR t ct nr nf m c u (16 + 8 * c' + k) = u (16 + 8 * c' + k) := fun c' hc' hn k hk => pl_stR (by omega) (by omega) (by omega) (by omega) (by omega) (by omega) (by omega) (by omega)
      have to' : ∀ r, r < nr → stR t ct nr nf m c u (48 + 9 * r + 3) = u (48 + 9 * r + 3) := fun r hr => D2.keep hr (by omega) (by omega) (by omega) (by omega) (by omega)
      have psE : ∀ hz : PH, (∀ c', c' < nc → hI hz (o + 4 + c') 8 = hI h2 (o + 4 + c') 8) → ps hz o nc = stR t ct nr nf m c u 5 := by
        intro hz ez
        rw [ps_eq ez nc (Nat.le_refl _), ps_add (h := h0) (d := d) (by omega : c < nc) (by rw [d1, n8]) (fun c' hn => f12.hI (by omega) 8) nc, if_pos (by omega), R0.pa, d2]
      refine ⟨fun ev => ?_, fun ev => ⟨S2.k, ?_⟩⟩
      · have e0 := z2 ev
        rw [n13, n14] at e0
        rw [e0.1, e0.2] at D2
        have ri2 : ∀ r, r < nr → ∀ k, k < 9 → stR t ct nr nf m c u (48 + 9 * r + k) = u (48 + 9 * r + k) := fun r hr k hk => by
          rw [D2.rr r hr k hk, ← DR.rfl'.rr (f := u) (c := c) (nr := nr) r hr k hk]
        refine next h2 (fb.trans (f12.frb (by omega) (by omega))) ?_
        rw [nE]
        refine R0.mk' S2 (fun k _ => f12.hI (by omega) k) ?_ lo (fun c' hc' => ?_) (fun r hr => ?_) (psE h2 fun _ _ => rfl)
        · rw [f12.hI (by omega), R0.fi, cnt_same (fun r hr => ri2 r hr 4 (by omega))]
        · by_cases e : c' = c
          · rw [e]; exact C2
          · have ac := f12.ac (b := o + 4 + c') (by omega)
            refine (R0.ca c' hc').oth (S2.lc c' (by omega)).2 (fun k => (ac.2 k).1) (fun k => (ac.2 k).2.2.1) (ac.2 11).2.1 (oth c' hc' e) to' fun i hi => ?_
            rw [(ac.2 12).2.1, st_shut (by omega) ev]
            exact (R0.ca c' hc').1.ca i hi
        · exact ((R0.ri r hr).ac (f12.ac (by omega))).row (ri2 r hr)
      · obtain ⟨w, v', w1, w2, w3, w4⟩ := st_open (t := t) (ct := ct) (m := m) (by omega : c < 4) hR ev
        obtain ⟨fl1, fl2⟩ := I0.i_flo (by omega : c < nc)
        have ef : stR t ct nr nf m c u (16 + 8 * c) = nI (flo u c) := by
          rw [w1]
          unfold worksC
          rw [up_ne (by omega), up_ne (by omega), opX_ab (by omega), w4, fl1]
        have ew : stR t ct nr nf m c u (16 + 8 * c + 1) = w := by
          rw [w1]
          unfold worksC
          rw [up_ne (by omega), up_ne (by omega), opX_ab (by omega), w3]
        have eK : ∀ i, stR t ct nr nf m c u (264 + i) = opX ct v' c (flo u c) w (264 + i) := fun i => by
          rw [w1]
          unfold worksC
          rw [up_ne (by omega), up_ne (by omega)]
        have hw : w = 0 ∨ w = 1 ∨ w = -1 := ew ▸ (I2.cars c (by omega)).wy
        refine ⟨_, k_settle (fl := flo u c) (w := w) S2 hC hR (by omega) ((f12.hI (by omega) 1).trans R0.nc) ((f12.hI (by omega) 2).trans R0.nr) ((f12.hI (by omega) 7).trans R0.ti) ((f12.hI (by omega) 12).trans R0.fi) (fun r hr => (R0.ri r hr).ac (f12.ac (by omega))) C2 D2 dis' hct hw ef (by omega) ew, ?_⟩
        rintro h3 ⟨b3, k3, e3, r3, c3⟩
        refine next h3 ((fb.trans (f12.frb (by omega) (by omega))).trans b3) ?_
        rw [nE]
        refine R0.mk' (S2.frb b3) (fun k hk => (k3 k hk).trans (f12.hI (by omega) k)) e3 lo (fun c' hc' => ?_) r3 (psE h3 fun c' hc' => (c3 c' hc').1 8)
        obtain ⟨y1, y2, y3, y4⟩ := c3 c' hc'
        have S3 := S2.frb b3
        by_cases e : c' = c
        · subst e
          refine C2.oth (S3.lc c' (by omega)).2 y1 y2 y3 (fun _ _ => rfl) (fun _ _ => rfl) fun i hi => ?_
          rw [y4 i hi, C2.1.ca i hi]
          refine ⟨fun z => z.1, fun z => ⟨z, fun q => ?_⟩⟩
          rcases opX_ans (ct := ct) (g := v') (c := c') (fl := flo u c') (w := w) (i := i) with p | p
          · rw [eK i, p.1] at z
            exact nz1 c' (by omega) z.2
          · exact p.2 q
        · have ac := f12.ac (b := o + 4 + c') (by omega)
          refine (R0.ca c' hc').oth (S3.lc c' (by omega)).2 (fun k => (y1 k).trans (ac.2 k).1) (fun k => (y2 k).trans (ac.2 k).2.2.1) (y3.trans (ac.2 11).2.1) (oth c' hc' e) to' fun i hi => ?_
          rw [y4 i hi, (ac.2 12).2.1, (R0.ca c' hc').1.ca i hi, eK i]
          rcases opX_ans (ct := ct) (g := v') (c := c) (fl := flo u c) (w := w) (i := i) with p | p
          · rw [p.1]
            exact ⟨fun z => absurd p.2 z.2, fun z => absurd z.2 (nz1 c' (by omega))⟩
          · rw [p.1, w2]
            exact ⟨fun z => z.1, fun z => ⟨z, p.2⟩⟩
  exact Cm.of (by decide) (Nat.le_of_ble_eq_true rfl) (vX1_moveCars_0 (loop nc 0 h (by omega) (FrB.refl _ _) R))
end Bank6
