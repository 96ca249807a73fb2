/-! THE CLASS'S FACE: mean, anew, homes, later, count -/
section Face3
variable {l : Launch} {x : CX} {h h' : PH} {nc nf nr fi fi' tl a b : Nat} {t ct rt tp : Nat → Int32} {ow ow' : Nat → Nat} {D D' : DT} {fp : Int32} {I : Option DT} {S : Nat → Prop}
theorem KO.rpQ (K : KO h ow fi t ct rt nc nf nr D tl tp fp I) (W : SO t ct rt nc nf nr D I) (p : FrX 100 139 h h') (R : RP h' 67 t ct rt nc nf nr) : KQ h 0 0 (KZ t ct rt nc nf nr D tl tp fp I) h' := KQ.frx ⟨W, ow, fi, K.rep W p R⟩ p (by decide)
theorem KO.rbQ (K : KO h ow fi t ct rt nc nf nr D tl tp fp I) (W : SO t ct rt nc nf nr D I) (p : FrB 100 h h') : KQ h 0 0 (KZ t ct rt nc nf nr D tl tp fp I) h' := K.rpQ W (p.frx (by decide) (by decide)) (K.2.1.frb W.1.c4 (by have := W.1.r20; omega) p)
theorem k_isPolicy {v : Int32} : CI l x mX7_isPolicy 0 0 0 [.int v] h (fun r h' => (¬ r = 0 ↔ inR v 3) ∧ h' = h) := by
  have e : (¬ (if v < 0 then 0 else (if 3 ≤ v then 0 else 1 : Int32) : Int32) = 0) ↔ inR v 3 := by
    rw [← inR_iff (n := 3) (by decide)]
    by_cases h0 : v < 0
    · rw [if_pos h0]; exact ⟨fun z => absurd rfl z, fun z => absurd h0 z.1⟩
    · rw [if_neg h0]
      by_cases h1 : (3 : Int32) ≤ v
      · rw [if_pos h1]; exact ⟨fun z => absurd rfl z, fun z => absurd h1 z.2⟩
      · rw [if_neg h1]; exact ⟨fun _ => ⟨h0, h1⟩, fun _ => by decide⟩
  refine Cm.of (by decide) (Nat.le_of_ble_eq_true rfl) (vX7_isPolicy_0 ⟨?_, _, rfl, e, rfl⟩)
  split
  · exact Or.inl rfl
  · split
    · exact Or.inl rfl
    · exact Or.inr rfl
theorem k_isLate {v : Int32} : CI l x mX7_isLate 0 0 0 [.int v] h (fun r h' => (¬ r = 0 ↔ inR v 12) ∧ h' = h) := by
  have e : (¬ (if v < 0 then 0 else (if 12 ≤ v then 0 else 1 : Int32) : Int32) = 0) ↔ inR v 12 := by
    rw [← inR_iff (n := 12) (by decide)]
    by_cases h0 : v < 0
    · rw [if_pos h0]; exact ⟨fun z => absurd rfl z, fun z => absurd h0 z.1⟩
    · rw [if_neg h0]
      by_cases h1 : (12 : Int32) ≤ v
      · rw [if_pos h1]; exact ⟨fun z => absurd rfl z, fun z => absurd h1 z.2⟩
      · rw [if_neg h1]; exact ⟨fun _ => ⟨h0, h1⟩, fun _ => by decide⟩
  refine Cm.of (by decide) (Nat.le_of_ble_eq_true rfl) (vX7_isLate_0 ⟨?_, _, rfl, e, rfl⟩)
  split
  · exact Or.inl rfl
  · split
    · exact Or.inl rfl
    · exact Or.inr rfl
theorem k_mean {p y : Int32} (O : XN x) (K : KS h t ct rt nc nf nr D tl tp fp I) : CK l x mX7_mean 8 [.ref 0, .int p, .int y] h (aMean t ct rt nc nf nr p y) exI (KQ h 0 0 (KZ t ct rt nc nf nr D tl tp fp I)) := by
  have Kq : KQ h 0 0 (KZ t ct rt nc nf nr D tl tp fp I) h := KQ.refl K
  obtain ⟨W, ow, fi, K⟩ := K
  have R := K.R
  have h20 := W.1.r20
  refine Cm.of (by decide) (Nat.le_of_ble_eq_true rfl) (vX7_mean_0 ⟨_, k_isPolicy, ?_⟩)
  rintro r1 _ ⟨i1, rfl⟩
  refine ⟨fun e => ⟨O.th_321, Nat.le_refl _, Nat.le_refl _, 1, ite'_f fun z => i1.mpr z.1 e, rfl, Kq⟩, fun e => ⟨_, k_isLate, ?_⟩⟩
  rintro r2 _ ⟨i2, rfl⟩
  refine ⟨fun e2 => ?_, fun e2 => ⟨O.th_321, Nat.le_refl _, Nat.le_refl _, 1, ite'_f fun z => i2.mpr z.2 e2, rfl, Kq⟩⟩
  have ip := i1.mp e
  have iy := i2.mp e2
  have ea : aMean t ct rt nc nf nr p y = .inl (if nr = 0 then 0 else (FP.fdiv (FP.i2f (wtdA (run t ct nc nf nr (anF t ct rt nc nr p y)) nr)) (FP.i2f (nI nr))).toInt32) := ite'_t ⟨ip, iy⟩
  have hp := inR3 ip
  obtain ⟨P, hP, rfl⟩ := id ip
  obtain ⟨Y, hY, rfl⟩ := id iy
  refine ⟨K.k0, 67, K.r5, R.1.1, _, R.1.2.1, R.2.1.s.k, fun e3 => ⟨_, R.1.2.2.2.2.2.1, _, k_run O R W.1 hP hY, ?_⟩, fun e3 => ?_⟩
  · rw [R.2.1.nr] at e3 ⊢
    have hn : ¬ nr = 0 := fun z => e3 (by rw [z]; rfl)
    rintro _ h1 ⟨rfl, q1, q2, q3, q4, q5⟩
    have kk : 12 * P + Y < 36 := by omega
    obtain ⟨v, hv, hv2⟩ := wtd_b (t := t) (ct := ct) (nf := nf) (nc := nc) (nr := nr) (f := anF t ct rt nc nr (nI P) (nI Y)) (by omega) W.1.c4 (New_an (y := nI Y) W.1 hp).2 200 nr (Nat.le_refl _)
    have ew : hI h1 (67 + 66) (nI (12 * P + Y)).toNatClampNeg = nI v := by
      rw [nI_clamp (by omega), q3.1, rnE hY]
      exact hv
    have nz := nrm_ok nr v (by omega) h20 hv2
    have ks := q2.1
    rw [ew]
    refine ⟨by rw [ks.2.2.2.2.2.2.1], by rw [ks.2.2.2.2.2.2.1]; exact vp_in_nI kk (by decide), Fok.n (by show _ ≤ 2139095040; omega), _, k_bitsOf nz, ?_⟩
    · rintro _ _ ⟨rfl, rfl⟩
      refine ⟨_, rfl, ?_, K.rpQ W q1 q2⟩
      rw [ea, if_neg hn]
      exact congrArg (fun u => Sum.inl (FP.fdiv (FP.i2f u) (FP.i2f (nI nr))).toInt32) hv
  · rw [R.2.1.nr] at e3
    have hn : nr = 0 := (nI_eq (b := 0) (by omega) (by decide)).mp e3
    exact ⟨_, rfl, by rw [ea, if_pos hn], Kq⟩
theorem k_anew {p y k : Int32} (O : XN x) (K : KS h t ct rt nc nf nr D tl tp fp I) : CK l x mX7_anew 8 [.ref 0, .int p, .int y, .int k] h (aAnew t ct rt nc nf nr p y k) exN (KQ h 0 0 (KZ t ct rt nc nf nr D tl tp fp I)) := by
  have Kq : KQ h 0 0 (KZ t ct rt nc nf nr D tl tp fp I) h := KQ.refl K
  obtain ⟨W, ow, fi, K⟩ := K
  have R := K.R
  have no1 : ¬ inR k 3 → aAnew t ct rt nc nf nr p y k = .inr 1 := fun z => ite'_f z
  have no2 : inR k 3 → ¬ (inR p 3 ∧ inR y 12) → aAnew t ct rt nc nf nr p y k = .inr 2 := fun y z => (ite'_t y).trans (ite'_f z)
  refine Cm.of (by decide) (Nat.le_of_ble_eq_true rfl) (vX7_anew_0 ⟨fun e => ⟨O.th_331, Nat.le_refl _, Nat.le_refl _, 1, no1 (inR_n0 (by decide) e), rfl, Kq⟩, fun e => ⟨fun e2 => ⟨_, k_isPolicy, ?_⟩, fun e2 => ⟨O.th_331, Nat.le_refl _, Nat.le_refl _, 1, no1 (inR_nK (n := 3) rfl (by decide) e2), rfl, Kq⟩⟩⟩)
  have ik : inR k 3 := inR_mk (n := 3) rfl (by decide) e e2
  rintro r1 _ ⟨i1, rfl⟩
  refine ⟨fun e3 => ⟨O.th_321, Nat.le_refl _, Nat.le_refl _, 2, no2 ik fun z => i1.mpr z.1 e3, rfl, Kq⟩, fun e3 => ⟨_, k_isLate, ?_⟩⟩
  rintro r2 _ ⟨i2, rfl⟩
  refine ⟨fun e4 => ?_, fun e4 => ⟨O.th_321, Nat.le_refl _, Nat.le_refl _, 2, no2 ik fun z => i2.mpr z.2 e4, rfl, Kq⟩⟩
  have ip := i1.mp e3
  have iy := i2.mp e4
  obtain ⟨P, hP, rfl⟩ := id ip
  obtain ⟨Y, hY, rfl⟩ := id iy
  obtain ⟨j, hj, ej⟩ := id ik
  have yes : aAnew t ct rt nc nf nr (nI P) (nI Y) k = .inl (anV (rnF t ct rt nc nf nr (12 * P + Y)) nr j) := by
    unfold aAnew
    rw [ite'_t ik, ite'_t ⟨ip, iy⟩, ej, nI_clamp (by omega), rnE hY]
  refine ⟨K.k0, 67, K.r5, R.1.1, _, k_run O R W.1 hP hY, ?_⟩
  rintro _ h1 ⟨rfl, q1, q2, q3, q4, q5⟩
  have kk : 12 * P + Y < 36 := by omega
  have ks := q2.1
  have Q1 := K.rpQ W q1 q2
  have K1 : (hK h1 0).1 = 7 := by rw [q1.hK]; exact K.k0
  have R1 : hR h1 0 3 = some 67 := by rw [q1.hR]; exact K.r5
  have cc : (nI (12 * P + Y)).toNatClampNeg = 12 * P + Y := nI_clamp (by omega)
  refine ⟨fun z => ⟨K1, 67, R1, ks.1, _, ks.2.2.2.2.2.2.2.1, by rw [ks.2.2.2.2.2.2.2.2.1], by rw [ks.2.2.2.2.2.2.2.2.1]; exact vp_in_nI kk (by decide), _, rfl, ?_, Q1⟩, fun z => ⟨K1, 67, R1, ks.1, _, ks.2.2.2.2.2.2.2.2.2.1, by rw [ks.2.2.2.2.2.2.2.2.2.2.1], by rw [ks.2.2.2.2.2.2.2.2.2.2.1]; exact vp_in_nI kk (by decide), _, rfl, ?_, Q1⟩, fun z => ⟨K1, 67, R1, ks.1, _, ks.2.2.2.2.2.2.2.2.2.2.2.1, by rw [ks.2.2.2.2.2.2.2.2.2.2.2.2.1], by rw [ks.2.2.2.2.2.2.2.2.2.2.2.2.1]; exact vp_in_nI kk (by decide), _, rfl, ?_, Q1⟩⟩
  · rw [yes, toInt_n (n := 0) z ej (by omega), cc, q3.2.1]
    rfl
  · rw [yes, toInt_n (n := 1) z ej (by omega), cc, q3.2.2.1]
    rfl
  · have j2 : j = 2 := by
      rw [ej, nI_toInt (by omega)] at z
      omega
    rw [yes, j2, cc, q3.2.2.2.1]
    rfl
theorem k_homes {c k : Int32} (O : XN x) (K : KS h t ct rt nc nf nr D tl tp fp I) : CK l x mX7_homes 8 [.ref 0, .int c, .int k] h (aHomes D.1 t ct rt nc nf nr c k) exN (KQ h 0 0 (KZ t ct rt nc nf nr D tl tp fp I)) := by
  have Kq : KQ h 0 0 (KZ t ct rt nc nf nr D tl tp fp I) h := KQ.refl K
  obtain ⟨W, ow, fi, K⟩ := K
  have B := K.B
  have hC := W.1.c4
  have f2 := W.1.f2
  have f12 := W.1.f12
  have hp : D.1 2 = 0 ∨ D.1 2 = 1 ∨ D.1 2 = 2 := W.2.1.w.2.1.p
  have no : ¬ (inR c nc ∧ inR k 2) → aHomes D.1 t ct rt nc nf nr c k = .inr 1 := fun z => ite'_f z
  refine Cm.of (by decide) (Nat.le_of_ble_eq_true rfl) (vX7_homes_0 ⟨K.k0, 139, K.r6, K.kd, 140, K.r0, fun e => ⟨O.th_342, Nat.le_refl _, Nat.le_refl _, 1, no fun z => inR_n0 (by omega) e z.1, rfl, Kq⟩, fun e => ⟨B.s.k, fun e2 => ?_, fun e2 => ⟨fun e3 => ⟨O.th_342, Nat.le_refl _, Nat.le_refl _, 1, no fun z => inR_n0 (by decide) e3 z.2, rfl, Kq⟩, fun e3 => ⟨fun e4 => ?_, fun e4 => ⟨O.th_342, Nat.le_refl _, Nat.le_refl _, 1, no fun z => inR_nK (n := 2) rfl (by decide) e4 z.2, rfl, Kq⟩⟩⟩⟩⟩)
  · rw [B.nc] at e2
    exact ⟨O.th_342, Nat.le_refl _, Nat.le_refl _, 1, no fun z => ((inR_iff (by omega)).mpr z.1).2 e2, rfl, Kq⟩
  rw [B.nc] at e2
  have ic : inR c nc := (inR_iff (by omega)).mp ⟨e, e2⟩
  have ik : inR k 2 := inR_mk (n := 2) rfl (by decide) e3 e4
  obtain ⟨cn, hcn, rfl⟩ := id ic
  generalize hw : (fun n => wtdA (run t ct nc nf nr (up (up (anF t ct rt nc nr (D.1 2) (D.1 3)) (16 + 8 * cn + 6) (nI n)) (16 + 8 * cn) (nI n))) nr) = w
  have yes : aHomes D.1 t ct rt nc nf nr (nI cn) k = .inl (if k = 0 then (hmA w nf).1 else (hmA w nf).2) := by
    unfold aHomes
    rw [ite'_t ⟨ic, ik⟩, nI_clamp (by omega), ← hw]
  have wn : ∀ n, n < nf → ∃ v, w n = nI v ∧ v ≤ 4800 := fun n hn => by
    rw [← hw]
    have N0 := New_an (y := D.1 3) W.1 hp
    have N1 := N0.up (N0.1.hom hcn hn) (fun r hr => by omega)
    exact (N1.up (N1.1.flr hcn hn) (fun r hr => by omega)).w 200 (Nat.le_refl _)
  have hm1 : ∀ i, i < nf → ∃ q v, hmA w (i + 1) = (nI q, nI v) ∧ q < 12 ∧ v ≤ 4800 := by
    intro i
    induction i with
    | zero =>
      intro hi
      obtain ⟨v, e1, e2⟩ := wn 0 hi
      exact ⟨0, v, by show (if (-1 : Int32) = -1 then (nI 0, w 0) else _) = _; rw [if_pos rfl, e1], by decide, e2⟩
    | succ i ih =>
      intro hi
      obtain ⟨q, v, e1, e2, e3⟩ := ih (by omega)
      obtain ⟨v', e4, e5⟩ := wn (i + 1) hi
      unfold hmA
      rw [e1]
      simp only
      rw [if_neg (nn_of rfl (by omega))]
      split
      · exact ⟨i + 1, v', by rw [e4], by omega, e5⟩
      · exact ⟨q, v, rfl, e2, e3⟩
  have loop : ∀ (j i : Nat) (g : PH) (x4 x5 : Int32), i + j = nf → FrB 100 h g → (i = 0 → x4 = -1 ∧ x5 = 0) → (0 < i → x4 = (hmA w i).1 ∧ x5 = (hmA w i).2) → Gm l x mX7_homes 8 49 [(0, .ref 0), (1, .int (nI cn)), (2, .int k), (3, .ref 140), (4, .int x4), (5, .int x5), (6, .int (nI i))] [] g 1 6 (hN h) (fun v h' => ∃ r_1, v = some (Value.int r_1) ∧ aHomes D.1 t ct rt nc nf nr (nI cn) k = Sum.inl r_1 ∧ KQ h 0 0 (KZ t ct rt nc nf nr D tl tp fp I) h') (fun c h' => ∃ q, aHomes D.1 t ct rt nc nf nr (nI cn) k = Sum.inr q ∧ c = exN q ∧ KQ h 0 0 (KZ t ct rt nc nf nr D tl tp fp I) h') := by
    intro j
    induction j with
    | zero =>
      intro i g x4 x5 hi p z1 z2
      have Bg := p.ac (b := 140) (by decide)
      refine vX7_homes_49 ⟨by rw [Bg.1]; exact B.s.k, fun _ => ⟨_, rfl, ?_, K.rbQ W p⟩, fun z => absurd (by rw [Bg.hI, B.fl]; exact nI_le (by omega) (by omega)) z⟩
      have hi2 : i = nf := by omega
      rw [yes, ← hi2, ← (z2 (by omega)).1, ← (z2 (by omega)).2]
    | succ j ih =>
      intro i g x4 x5 hi p z1 z2
      have Bg := p.ac (b := 140) (by decide)
      have Rg : RP g 67 t ct rt nc nf nr := K.2.1.frb hC (by have := W.1.r20; omega) p
      refine vX7_homes_49 ⟨by rw [Bg.1]; exact B.s.k, fun z => absurd z (by rw [Bg.hI, B.fl]; exact nI_ge (by omega) (by omega)), fun _ => ⟨by rw [p.hK]; exact K.k0, 67, by rw [p.hR]; exact K.r5, Rg.1.1, _, by rw [Bg.hI, Bg.hI, B.po, B.la]; exact k_waitedByHome O Rg W.1 hp hcn (show i < nf by omega), ?_⟩⟩
      rintro v g2 ⟨ev, p2⟩
      have ev2 : v = w i := by rw [ev, ← hw]
      rw [show nI i + 1 = nI (i + 1) from nI_add i 1]
      refine ih (i + 1) g2 _ _ (by omega) (p.trans p2) (fun z => absurd z (by omega)) fun _ => ?_
      rcases Nat.eq_zero_or_pos i with z | z
      · obtain ⟨y1, y2⟩ := z1 z
        subst z
        rw [y1, if_pos rfl, if_pos rfl, ev2]
        show nI 0 = (if (-1 : Int32) = -1 then (nI 0, w 0) else _).1 ∧ w 0 = (if (-1 : Int32) = -1 then (nI 0, w 0) else _).2
        rw [if_pos rfl]
        exact ⟨rfl, rfl⟩
      · obtain ⟨y1, y2⟩ := z2 z
        obtain ⟨i', rfl⟩ : ∃ i', i = i' + 1 := ⟨i - 1, by omega⟩
        obtain ⟨q, v', e1, e2, e3⟩ := hm1 i' (by omega)
        rw [e1] at y1 y2
        rw [y1, y2, if_neg (nn_of (w := q) rfl (by omega)), if_neg (nn_of (w := q) rfl (by omega)), ev2]
        rw [show hmA w (i' + 1 + 1) = (if (hmA w (i' + 1)).2 = -1 then (nI (i' + 1), w (i' + 1)) else if w (i' + 1) < (hmA w (i' + 1)).2 then (nI (i' + 1), w (i' + 1)) else hmA w (i' + 1)) from rfl, e1]
        simp only
        rw [if_neg (nn_of (w := v') rfl (by omega))]
        by_cases y : nI v' ≤ w (i' + 1)
        · rw [if_pos y, if_pos y, if_neg (Int32.not_lt.mpr y)]
          exact ⟨rfl, rfl⟩
        · rw [if_neg y, if_neg y, if_pos (Int32.not_le.mp y)]
          exact ⟨rfl, rfl⟩
  exact loop nf 0 h _ _ (by omega) (FrB.refl _ _) (fun _ => ⟨rfl, rfl⟩) (fun z => absurd z (Nat.lt_irrefl _))
theorem k_later {r : Int32} (O : XN x) (K : KS h t ct rt nc nf nr D tl tp fp I) : CK l x mX7_later 8 [.ref 0, .int r] h (aLater D.1 t ct rt nc nf nr r) exN (KQ h 0 0 (KZ t ct rt nc nf nr D tl tp fp I)) := by
  have Kq : KQ h 0 0 (KZ t ct rt nc nf nr D tl tp fp I) h := KQ.refl K
  obtain ⟨W, ow, fi, K⟩ := K
  have B := K.B
  have hC := W.1.c4
  have h20 := W.1.r20
  have hp : D.1 2 = 0 ∨ D.1 2 = 1 ∨ D.1 2 = 2 := W.2.1.w.2.1.p
  obtain ⟨Y, eY, hY⟩ := W.2.1.2.2.1
  obtain ⟨P, eP, hP⟩ : ∃ P, D.1 2 = nI P ∧ P < 3 := by
    rcases hp with z | z | z
    · exact ⟨0, z, by decide⟩
    · exact ⟨1, z, by decide⟩
    · exact ⟨2, z, by decide⟩
  refine Cm.of (by decide) (Nat.le_of_ble_eq_true rfl) (vX7_later_0 ⟨K.k0, _, k_isTold K h20, ?_⟩)
  rintro q hh ⟨hq, eh⟩
  obtain rfl := eh.symm
  refine ⟨fun e => ?_, fun e => ⟨O.th_351, Nat.le_refl _, Nat.le_refl _, 1, ite'_f fun z => hq.mpr z e, rfl, Kq⟩⟩
  have ir := hq.mp e
  obtain ⟨n, hn, rfl⟩ := id ir
  have R := K.R
  obtain ⟨tm, etm, htm⟩ := (W.1.ri n hn).2.1
  generalize hE : eaP t ct rt nc nf nr (D.1 2) (D.1 3) n 0 = E0
  have yes : aLater D.1 t ct rt nc nf nr (nI n) = .inl (if E0 = -1 then 0 else ltA (fun k => eaP t ct rt nc nf nr (D.1 2) (D.1 3) n (nI k)) E0 (min 20 (99 - tm))) := by
    unfold aLater
    rw [ite'_t ir, nI_clamp (by omega), hE, etm, nI_clamp (by omega)]
  refine ⟨K.k0, 139, K.r6, K.kd, 140, K.r0, 67, K.r5, B.s.k, R.1.1, _, by rw [B.po, B.la, eP, eY]; exact k_run O R W.1 hP hY, ?_⟩
  rintro _ h1 ⟨rfl, q1, q2, q3, q4, q5⟩
  have kk : 12 * P + Y < 36 := by omega
  refine ⟨q2.1.1, _, k_doneTime q2.1 kk (by omega), ?_⟩
  rintro d hh ⟨ed, eh⟩
  obtain rfl := eh.symm
  have ed2 : d = E0 := by
    rw [ed, q3.2.2.2.2.2 n hn, rnE hY, ← hE, eP, eY]
    unfold eaP
    rw [Int32.add_zero]
    congr 2
    funext j
    by_cases z : j = 48 + 9 * n + 1
    · rw [z, up_eq, an_r (k := 1) hC hn (by decide)]
      rfl
    · rw [up_ne z]
  have B1 := q2.2.1
  have pr := B1.s.pr n (by omega)
  have tm1 : hI h1 (67 + 1 + 8 + n) 1 = nI tm := by
    rw [(B1.ri n hn).co, bg_r (k := 1) hC hn (by decide)]
    exact etm
  refine ⟨by rw [q1.hK]; exact K.k0, 67, by rw [q1.hR]; exact K.r5, q2.1.1, _, q2.1.2.1, B1.s.k, _, B1.s.p, by rw [B1.s.pk], by rw [B1.s.pk]; exact vp_in_nI (by omega) (by decide), _, by rw [nI_clamp (by omega)]; exact pr.1, pr.2, ?_⟩
  have K1 : KO h1 ow fi t ct rt nc nf nr D tl tp fp I := K.rep W q1 q2
  have loop : ∀ (i : Nat) (g : PH) (x4 : Int32), i ≤ 20 → FrB 100 h1 g → ((if E0 = -1 then 0 else ltA (fun k => eaP t ct rt nc nf nr (D.1 2) (D.1 3) n (nI k)) E0 (min 20 (99 - tm))) = (if E0 = -1 then 0 else ltA (fun k => eaP t ct rt nc nf nr (D.1 2) (D.1 3) n (nI k)) E0 i)) → Gm l x mX7_later 8 80 [(0, .ref 0), (1, .int (nI n)), (2, .ref 140), (3, .int d), (4, .int x4), (5, .int (nI i))] [] g 1 6 (hN h) (fun v h' => ∃ r_1, v = some (Value.int r_1) ∧ aLater D.1 t ct rt nc nf nr (nI n) = Sum.inl r_1 ∧ KQ h 0 0 (KZ t ct rt nc nf nr D tl tp fp I) h') (fun c h' => ∃ q, aLater D.1 t ct rt nc nf nr (nI n) = Sum.inr q ∧ c = exN q ∧ KQ h 0 0 (KZ t ct rt nc nf nr D tl tp fp I) h') := by
    intro i
    induction i with
    | zero =>
      intro g x4 _ p z
      refine vX7_later_80 ⟨fun _ => ⟨_, rfl, ?_, (K.rpQ W q1 q2).trans (K1.rbQ W p)⟩, fun y => absurd (nI_le (a := 0) (Nat.le_refl _) (by decide)) y⟩
      rw [yes, z]
      split <;> rfl
    | succ i ih =>
      intro g x4 hi p z
      have Bg := p.ac (b := 140) (by decide)
      have Rg : RP g 67 t ct rt nc nf nr := q2.frb hC (by omega) p
      have B8 := q1.ac (c := 140) (by decide)
      refine vX7_later_80 ⟨fun y => absurd y (nI_ge (a := 0) (b := i + 1) (by omega) (by omega)), fun _ => ⟨fun y => ⟨_, rfl, ?_, (K.rpQ W q1 q2).trans (K1.rbQ W p)⟩, fun y => ⟨by rw [p.hK]; exact K1.k0, 67, by rw [p.hR]; exact K1.r5, by rw [Bg.1, B8.1]; exact B.s.k, Rg.1.1, _, by rw [Bg.hI, Bg.hI, B8.hI, B8.hI, B.po, B.la]; exact k_doneIfLater O Rg W.1 hp hn, ?_⟩⟩⟩
      · rw [yes, if_pos (ed2.symm.trans y)]
      · rintro v g2 ⟨ev, p2⟩
        have ne : ¬ E0 = -1 := fun q => y (ed2.trans q)
        have es : nI (i + 1) + (-1) = nI i := by rw [← nI_add i 1, Int32.add_assoc]; exact Int32.add_zero _
        rw [if_neg ne, if_neg ne] at z
        rw [show ltA (fun k => eaP t ct rt nc nf nr (D.1 2) (D.1 3) n (nI k)) E0 (i + 1) = (if eaP t ct rt nc nf nr (D.1 2) (D.1 3) n (nI (i + 1)) = -1 then ltA (fun k => eaP t ct rt nc nf nr (D.1 2) (D.1 3) n (nI k)) E0 i else if E0 < eaP t ct rt nc nf nr (D.1 2) (D.1 3) n (nI (i + 1)) then ltA (fun k => eaP t ct rt nc nf nr (D.1 2) (D.1 3) n (nI k)) E0 i else nI (i + 1)) from rfl, ← ev, ← ed2] at z
        rw [es]
        refine ⟨fun y1 => ih g2 x4 (by omega) (p.trans p2) ?_, fun y1 => ⟨fun y2 => ih g2 x4 (by omega) (p.trans p2) ?_, fun y2 => ⟨_, rfl, ?_, (K.rpQ W q1 q2).trans (K1.rbQ W (p.trans p2))⟩⟩⟩
        · rw [if_neg ne, if_neg ne, ← ed2, z, if_pos y1]
        · rw [if_neg ne, if_neg ne, ← ed2, z, if_neg y1, if_pos y2]
        · rw [yes, if_neg ne, ← ed2, z, if_neg y1, if_neg y2]
  rintro y40 ey
  have e40 : y40 = nI (min 20 (99 - tm)) := by
    have e99 : (99 : Int32) - nI tm = nI (99 - tm) := by
      rw [show (99 : Int32) = nI (99 - tm) + nI tm by rw [nI_add, Nat.sub_add_cancel htm]; rfl, Int32.add_sub_cancel]
    rw [ey, tm1, e99]
    by_cases z : 99 - tm < 20
    · have z20 : nI (99 - tm) < 20 := nI_lt (b := 20) z (by decide)
      rw [if_pos z20, Nat.min_eq_right (by omega)]
    · have z20 : ¬ nI (99 - tm) < 20 := fun q => z ((nI_ltI (b := 20) (by omega) (by decide)).mp q)
      rw [if_neg z20, Nat.min_eq_left (by omega)]
      rfl
  rw [e40]
  exact loop _ h1 _ (Nat.min_le_left _ _) (FrB.refl _ _) rfl
end Face3
