/-! THE CLASS'S FACE: fault, rider, car, given, cost, forget, note -/
section Face1
variable {l : Launch} {x : CX} {h h' : PH} {nc nf nr fi fi' tl a b : Nat} {t ct rt tp : Nat → Int32} {ow ow' : Nat → Nat} {D D' : DT} {fp : Int32} {I : Option DT} {S : Nat → Prop}
theorem k_fault (K : KS h t ct rt nc nf nr D tl tp fp I) : CI l x mX7_fault 0 0 0 [.ref 0] h (fun v h' => v = fp ∧ KQ h 0 0 (KZ t ct rt nc nf nr D tl tp fp I) h') := by
  have Kq : KQ h 0 0 (KZ t ct rt nc nf nr D tl tp fp I) h := KQ.refl K
  obtain ⟨W, ow, fi, K⟩ := K
  exact Cm.of (by decide) (Nat.le_of_ble_eq_true rfl) (vX7_fault_0 ⟨K.k0, _, rfl, K.2.2.2.2.1, Kq⟩)
theorem k_rider {r k : Int32} (O : XN x) (K : KS h t ct rt nc nf nr D tl tp fp I) : CK l x mX7_rider 8 [.ref 0, .int r, .int k] h (aRider D.1 (rn D.1) r k) exN (KQ h 0 0 (KZ t ct rt nc nf nr D tl tp fp I)) := by
  have Kq : KQ h 0 0 (KZ t ct rt nc nf nr D tl tp fp I) h := KQ.refl K
  obtain ⟨W, ow, fi, K⟩ := K
  have B := K.B
  have h24 := W.2.1.w.r24
  have no : ¬ (inR r (rn D.1) ∧ inR k 8) → aRider D.1 (rn D.1) r k = .inr 1 := fun z => ite'_f z
  have ok : ∀ n i, r = nI n → n < rn D.1 → k = nI i → i < 8 → aRider D.1 (rn D.1) r k = .inl (D.1 (48 + 9 * n + i)) := fun n i e1 h1 e2 h2 => by
    unfold aRider
    rw [ite'_t ⟨⟨n, h1, e1⟩, ⟨i, h2, e2⟩⟩, e1, e2, nI_clamp (by omega), nI_clamp (by omega)]
  refine Cm.of (by decide) (Nat.le_of_ble_eq_true rfl) (vX7_rider_0 ⟨K.k0, 139, K.r6, K.kd, 140, K.r0, fun e => ?_, fun e => ⟨B.s.k, fun e2 => ?_, fun e2 => ?_⟩⟩)
  · exact ⟨O.th_235, Nat.le_refl _, Nat.le_refl _, 1, no fun z => ((inR_iff (by omega)).mpr z.1).1 e, rfl, Kq⟩
  · rw [B.nr] at e2
    obtain ⟨n, hn, en⟩ := (inR_iff (by omega)).mp ⟨e, Int32.not_le.mpr e2⟩
    have pr := B.s.pr n (by omega)
    have rr := B.ri n hn
    refine ⟨_, B.s.p, by rw [B.s.pk], by rw [B.s.pk, en]; exact vp_in_nI (by omega) (by decide), _, by rw [en, nI_clamp (by omega)]; exact pr.1, ?_⟩
    have cs : ∀ i (u : Int32), k.toInt = ((i : Nat) : Int) → i < 8 → u = D.1 (48 + 9 * n + i) → (hK h (140 + 8 + n)).1 = 6 ∧ ∃ r_1, some (Value.int u) = some (Value.int r_1) ∧ aRider D.1 (rn D.1) r k = Sum.inl r_1 ∧ KQ h 0 0 (KZ t ct rt nc nf nr D tl tp fp I) h := fun i u z hi eu => ⟨pr.2, _, rfl, by rw [eu]; exact ok n i en hn (of_toInt z (by omega)) hi, Kq⟩
    exact ⟨fun z => cs 0 _ z (by decide) rr.so, fun z => cs 1 _ z (by decide) rr.co, fun z => cs 2 _ z (by decide) rr.fr, fun z => cs 3 _ z (by decide) rr.to, fun z => cs 4 _ z (by decide) rr.wh, fun z => cs 5 _ z (by decide) rr.we, fun z => cs 6 _ z (by decide) rr.wt, fun z => cs 7 _ z (by decide) rr.en, fun z => ⟨O.th_263, Nat.le_refl _, Nat.le_refl _, 1, no fun y => inR_toInt (K := 7) (n := 8) rfl (by decide) z y.2, rfl, Kq⟩⟩
  · rw [B.nr] at e2
    exact ⟨O.th_235, Nat.le_refl _, Nat.le_refl _, 1, no fun z => e2 (Int32.not_le.mp ((inR_iff (by omega)).mpr z.1).2), rfl, Kq⟩
theorem k_car {c k : Int32} (O : XN x) (K : KS h t ct rt nc nf nr D tl tp fp I) : CK l x mX7_car 8 [.ref 0, .int c, .int k] h (aCar D.1 ct nc nf (rn D.1) c k) exN (KQ h 0 0 (KZ t ct rt nc nf nr D tl tp fp I)) := by
  have Kq : KQ h 0 0 (KZ t ct rt nc nf nr D tl tp fp I) h := KQ.refl K
  obtain ⟨W, ow, fi, K⟩ := K
  have B := K.B
  have hC := W.1.c4
  obtain ⟨⟨m, J⟩, G, _⟩ := id W.2.1.w
  have no : ¬ (inR c nc ∧ inR k 10) → aCar D.1 ct nc nf (rn D.1) c k = .inr 1 := fun z => ite'_f z
  have ok : ∀ n i, c = nI n → n < nc → k = nI i → i < 10 → aCar D.1 ct nc nf (rn D.1) c k = .inl (carV D.1 ct (rn D.1) nf n i) := fun n i e1 h1 e2 h2 => by
    unfold aCar
    rw [ite'_t ⟨⟨n, h1, e1⟩, ⟨i, h2, e2⟩⟩, e1, e2, nI_clamp (by omega), nI_clamp (by omega)]
  refine Cm.of (by decide) (Nat.le_of_ble_eq_true rfl) (vX7_car_0 ⟨K.k0, 139, K.r6, K.kd, 140, K.r0, fun e => ?_, fun e => ⟨B.s.k, fun e2 => ?_, fun e2 => ?_⟩⟩)
  · exact ⟨O.th_190, Nat.le_refl _, Nat.le_refl _, 1, no fun z => ((inR_iff (by omega)).mpr z.1).1 e, rfl, Kq⟩
  · rw [B.nc] at e2
    obtain ⟨n, hn, en⟩ := (inR_iff (by omega)).mp ⟨e, Int32.not_le.mpr e2⟩
    have pr := B.s.lc n (by omega)
    have C := B.ca n hn
    have cI := J.cars n hn
    refine ⟨_, B.s.l, by rw [B.s.lk], by rw [B.s.lk, en]; exact vp_in_nI (by omega) (by decide), _, by rw [en, nI_clamp (by omega)]; exact pr.1, ?_⟩
    have cs : ∀ i (u : Int32), k.toInt = ((i : Nat) : Int) → i < 10 → u = carV D.1 ct (rn D.1) nf n i → (hK h (140 + 4 + n)).1 = 2 ∧ ∃ r_1, some (Value.int u) = some (Value.int r_1) ∧ aCar D.1 ct nc nf (rn D.1) c k = Sum.inl r_1 ∧ KQ h 0 0 (KZ t ct rt nc nf nr D tl tp fp I) h := fun i u z hi eu => ⟨pr.2, _, rfl, by rw [eu]; exact ok n i en hn (of_toInt z (by omega)) hi, Kq⟩
    refine ⟨fun z => cs 0 _ z (by decide) C.1.so, fun z => cs 1 _ z (by decide) C.1.ho, fun z => cs 2 _ z (by decide) C.1.hm, fun z => cs 3 _ z (by decide) C.1.fl, fun z => cs 4 _ z (by decide) C.1.wy, fun z => cs 5 _ z (by decide) C.1.dr, fun z => cs 6 _ z (by decide) C.1.ab, fun z => cs 7 _ z (by decide) ?_, fun z => ⟨pr.2, _, by rw [B.fl]; exact k_stopFloors C J hn, ?_⟩, fun z => ⟨pr.2, _, k_bitsOf ?_, ?_⟩, fun z => ⟨O.th_233, Nat.le_refl _, Nat.le_refl _, 1, no fun y => inR_toInt (K := 9) (n := 10) rfl (by decide) z y.2, rfl, Kq⟩⟩
    · rw [C.1.inn]
      rcases cI.inn with q | q
      · rw [q, if_pos rfl]; exact q.symm
      · rw [q, if_neg (by decide)]; exact q.symm
    · rintro _ _ ⟨rfl, rfl⟩
      exact ⟨_, rfl, ok n 8 en hn (of_toInt z (by decide)) (by decide), Kq⟩
    · rw [C.1.wk]
      have := cI.wo
      unfold Wok at this
      omega
    · rintro _ _ ⟨rfl, rfl⟩
      refine ⟨_, rfl, (ok n 9 en hn (of_toInt z (by decide)) (by decide)).trans (congrArg Sum.inl ?_), Kq⟩
      rw [C.1.wk]
      rfl
  · rw [B.nc] at e2
    exact ⟨O.th_190, Nat.le_refl _, Nat.le_refl _, 1, no fun z => e2 (Int32.not_le.mp ((inR_iff (by omega)).mpr z.1).2), rfl, Kq⟩
theorem k_isSort {s : Int32} : CI l x mX7_isSort 0 0 0 [.int s] h (fun r h' => (¬ r = 0 ↔ (s = 1 ∨ s = 2)) ∧ h' = h) := by
  refine Cm.of (by decide) (Nat.le_of_ble_eq_true rfl) (vX7_isSort_0 ⟨?_, _, rfl, ?_, rfl⟩)
  · split
    · exact Or.inr rfl
    · split
      · exact Or.inr rfl
      · exact Or.inl rfl
  · by_cases e1 : s = 1
    · rw [if_pos e1]; exact ⟨fun _ => Or.inl e1, fun _ => by decide⟩
    · rw [if_neg e1]
      by_cases e2 : s = 2
      · rw [if_pos e2]; exact ⟨fun _ => Or.inr e2, fun _ => by decide⟩
      · rw [if_neg e2]; exact ⟨fun z => absurd rfl z, fun z => absurd z (by simp [e1, e2])⟩
theorem k_callNumber {fl s : Nat} {y : Int32} (h1 : 1 ≤ s) (h2 : s ≤ 2) (hf : fl < 12) : CI l x mX7_callNumber 0 0 0 [.int (nI fl), .int y, .int (nI s)] h (fun r h' => r = nI (kix fl y s - 264) ∧ h' = h) := by
  refine Cm.of (by decide) (Nat.le_of_ble_eq_true rfl) (vX7_callNumber_0 ⟨_, rfl, ?_, rfl⟩)
  have e1 : (if y ≤ 0 then 2 else 0 : Int32) = nI (if y ≤ 0 then 2 else 0) := by by_cases hy : y ≤ 0 <;> simp only [hy, if_true, if_false] <;> rfl
  have e2 : (if nI s = 1 then 0 else 1 : Int32) = nI (s - 1) := by
    rcases (show s = 1 ∨ s = 2 by omega) with rfl | rfl <;> decide
  rw [e1, e2]
  show nI 4 * nI fl + _ + _ = _
  rw [nI_mul, nI_add, nI_add]
  unfold kix
  exact congrArg nI (by omega)
theorem kx48 {fl s : Nat} {y : Int32} (h2 : s ≤ 2) (hf : fl < 12) : kix fl y s = 264 + (kix fl y s - 264) ∧ kix fl y s - 264 < 48 := by
  unfold kix
  split <;> omega
theorem wy_pm (u : Int32) : wy u = 1 ∨ wy u = -1 := by
  show (if u = 0 then (-1) else 1 : Int32) = 1 ∨ (if u = 0 then (-1) else 1 : Int32) = -1
  split
  · exact Or.inr rfl
  · exact Or.inl rfl
theorem k_given {fl u s : Int32} (O : XN x) (K : KS h t ct rt nc nf nr D tl tp fp I) : CK l x mX7_given 8 [.ref 0, .int fl, .int u, .int s] h (aGiven D.1 nf (rn D.1) fl u s) exN (KQ h 0 0 (KZ t ct rt nc nf nr D tl tp fp I)) := by
  have Kq : KQ h 0 0 (KZ t ct rt nc nf nr D tl tp fp I) h := KQ.refl K
  obtain ⟨W, ow, fi, K⟩ := K
  have B := K.B
  have hF := W.1.f12
  obtain ⟨⟨m, J⟩, G, _⟩ := id W.2.1.w
  have no : ¬ (inR fl nf ∧ (s = 1 ∨ s = 2)) → aGiven D.1 nf (rn D.1) fl u s = .inr 1 := fun z => ite'_f z
  refine Cm.of (by decide) (Nat.le_of_ble_eq_true rfl) (vX7_given_0 ⟨K.k0, 139, K.r6, K.kd, 140, K.r0, B.s.k, _, k_hasFloor B.s.k B.fl (by omega), ?_⟩)
  rintro r h1 ⟨er, rfl⟩
  refine ⟨fun e => ⟨O.th_272, Nat.le_refl _, Nat.le_refl _, 1, no fun z => er.mpr z.1 e, rfl, Kq⟩, fun e => ⟨_, k_isSort, ?_⟩⟩
  rintro r2 h2 ⟨er2, rfl⟩
  refine ⟨fun e2 => ?_, fun e2 => ⟨O.th_272, Nat.le_refl _, Nat.le_refl _, 1, no fun z => er2.mpr z.2 e2, rfl, Kq⟩⟩
  obtain ⟨n, hn, rfl⟩ := er.mp e
  obtain ⟨sn, rfl, s1, s2⟩ := s12n (er2.mp e2)
  have kx := kx48 (fl := n) (y := wy u) s2 (by omega)
  have ic := wts_ic (f := D.1) (nr := rn D.1) (wy_pm u) s1 s2 (show n < 12 by omega) kx.1
  have yes : aGiven D.1 nf (rn D.1) (nI n) u (nI sn) = .inl (if icA D.1 (nI n) (wy u) (nI sn) (rn D.1) = 0 then -2 else D.1 (kix n (wy u) sn) - 1) := by
    unfold aGiven
    rw [ite'_t ⟨⟨n, hn, rfl⟩, er2.mp e2⟩, nI_clamp (by omega), nI_clamp (by omega)]
  refine ⟨_, k_callNumber (y := wy u) s1 s2 (by omega), ?_⟩
  rintro _ _ ⟨rfl, rfl⟩
  refine ⟨B.s.k, _, k_callsWaiting O.n_RX1_140 B.po' J, ?_⟩
  rintro v h3 ⟨hv, rfl⟩
  have bit := bL_bit v (kix n (wy u) sn - 264) (by omega)
  refine ⟨fun e3 => ⟨B.s.k, _, k_holderOf B J kx.2, ?_⟩, fun e3 => ?_⟩
  · rintro _ _ ⟨rfl, rfl⟩
    have w := ic.mp ((hv _ (by omega)).mp (bit.mp e3))
    refine ⟨_, rfl, ?_, Kq⟩
    rw [yes, if_neg w, ← kx.1]
  · refine ⟨_, rfl, ?_, Kq⟩
    rw [yes, if_pos]
    exact Classical.byContradiction fun z => bit.mpr ((hv _ (by omega)).mpr (ic.mpr z)) e3
theorem k_cost {c fl u s : Int32} (O : XN x) (K : KS h t ct rt nc nf nr D tl tp fp I) : CK l x mX7_cost 8 [.ref 0, .int c, .int fl, .int u, .int s] h (aCost D.1 t ct nc nf (rn D.1) c fl u s) exN (KQ h 0 0 (KZ t ct rt nc nf nr D tl tp fp I)) := by
  have Kq : KQ h 0 0 (KZ t ct rt nc nf nr D tl tp fp I) h := KQ.refl K
  obtain ⟨W, ow, fi, K⟩ := K
  have B := K.B
  have hF := W.1.f12
  have hC := W.1.c4
  have h24 := W.2.1.w.r24
  obtain ⟨⟨m, J⟩, G, _⟩ := id W.2.1.w
  have no : ¬ (inR c nc ∧ inR fl nf ∧ (s = 1 ∨ s = 2)) → aCost D.1 t ct nc nf (rn D.1) c fl u s = .inr 1 := fun z => ite'_f z
  refine Cm.of (by decide) (Nat.le_of_ble_eq_true rfl) (vX7_cost_0 ⟨K.k0, 139, K.r6, K.kd, 140, K.r0, fun e => ?_, fun e => ⟨B.s.k, fun e2 => ?_, fun e2 => ⟨_, k_hasFloor B.s.k B.fl (by omega), ?_⟩⟩⟩)
  · exact ⟨O.th_281, Nat.le_refl _, Nat.le_refl _, 1, no fun z => ((inR_iff (by omega)).mpr z.1).1 e, rfl, Kq⟩
  · rw [B.nc] at e2
    exact ⟨O.th_281, Nat.le_refl _, Nat.le_refl _, 1, no fun z => ((inR_iff (by omega)).mpr z.1).2 e2, rfl, Kq⟩
  rw [B.nc] at e2
  rintro r h1 ⟨er, rfl⟩
  refine ⟨fun e3 => ⟨O.th_281, Nat.le_refl _, Nat.le_refl _, 1, no fun z => er.mpr z.2.1 e3, rfl, Kq⟩, fun e3 => ⟨_, k_isSort, ?_⟩⟩
  rintro r2 h2 ⟨er2, rfl⟩
  refine ⟨fun e4 => ?_, fun e4 => ⟨O.th_281, Nat.le_refl _, Nat.le_refl _, 1, no fun z => er2.mpr z.2.2 e4, rfl, Kq⟩⟩
  obtain ⟨n, hn, rfl⟩ := er.mp e3
  have s12 := er2.mp e4
  obtain ⟨sn, rfl, s1, s2⟩ := s12n s12
  obtain ⟨cn, hcn, rfl⟩ := (inR_iff (by omega)).mp ⟨e, e2⟩
  have pr := B.s.lc cn (by omega)
  have C := B.ca cn hcn
  have yes : aCost D.1 t ct nc nf (rn D.1) (nI cn) (nI n) u (nI sn) = ite' (D.1 (16 + 8 * cn + 4) = 0 ∨ takesC ct cn (nI sn) = 0) (.inr 2) (.inl (costC t ct (rn D.1) nf (mm D.1) cn n sn (wy u) D.1)) := by
    unfold aCost
    rw [ite'_t ⟨⟨cn, hcn, rfl⟩, ⟨n, hn, rfl⟩, s12⟩, nI_clamp (by omega), nI_clamp (by omega), nI_clamp (by omega)]
  refine ⟨B.s.k, _, B.s.l, by rw [B.s.lk], by rw [B.s.lk]; exact vp_in_nI (by omega) (by decide), _, by rw [nI_clamp (by omega)]; exact pr.1, pr.2, fun e5 => ?_, fun e5 => ⟨_, k_takes pr.2 C.1.so, ?_⟩⟩
  · rw [C.1.inn] at e5
    exact ⟨O.th_286, Nat.le_refl _, Nat.le_refl _, 2, by rw [yes, ite'_t (Or.inl e5)], rfl, Kq⟩
  rw [C.1.inn] at e5
  rintro _ _ ⟨rfl, rfl⟩
  refine ⟨fun e6 => ⟨_, k_callNumber (y := wy u) s1 s2 (by omega), ?_⟩, fun e6 => ⟨O.th_286, Nat.le_refl _, Nat.le_refl _, 2, by rw [yes, ite'_t (Or.inr e6)], rfl, Kq⟩⟩
  rintro _ _ ⟨rfl, rfl⟩
  have kx := kx48 (fl := n) (y := wy u) s2 (by omega)
  refine ⟨B.s.k, _, k_costOf W.1.tk.1 B J hcn hn s1 s2 (wy_pm u) kx.1 e6, ?_⟩
  rintro _ h3 ⟨rfl, p3⟩
  refine ⟨_, rfl, ?_, ?_⟩
  · rw [yes, ite'_f (fun z => z.elim e5 e6), J.i_mm]
  · exact K.now (F := D.1) W W (p3.frb (by decide) (by decide)) (B.tr hC h24 p3)
theorem k_forget (K : KS h t ct rt nc nf nr D tl tp fp I) : CV l x mX7_forget 0 0 0 [.ref 0] h (fun h' => KQ h 0 0 (KZ t ct rt nc nf nr (dForget D) tl tp fp I) h') := by
  obtain ⟨W, ow, fi, K⟩ := K
  refine Cm.of (by decide) (Nat.le_of_ble_eq_true rfl) (vX7_forget_0 ⟨K.k0, 139, K.r6, K.kd, rfl, ?_⟩)
  have f1 : Fr1 139 h (sI h 139 4 0) := (Fr1.refl _ _).sI _ _
  have W' : SO t ct rt nc nf nr (dForget D) I := ⟨W.1, ⟨⟨W.2.1.1.1, W.2.1.1.2.1, W.2.1.1.2.2.1, Nat.zero_le _⟩, fun i hi => absurd hi (Nat.not_lt_zero _), W.2.1.2.2.1, W.2.1.2.2.2.1, W.2.1.2.2.2.2⟩, W.2.2⟩
  refine K.note (D' := dForget D) W W' (f1.frx (by decide) (by decide)) (fun b h1 h2 => f1.ac (by omega)) ?_ rfl rfl
  obtain ⟨d1, d2, d3⟩ := K.V.2.2.2.2.1
  exact ⟨gI _ _ _ _, fun i hi => absurd hi (Nat.not_lt_zero _), fun i hi => by rw [f1.hI (by decide)]; exact d3 i hi⟩
theorem k_isTold {v : Int32} (K : KO h ow fi t ct rt nc nf nr D tl tp fp I) (h20 : nr ≤ 20) : CI l x mX7_isTold 0 0 0 [.ref 0, .int v] h (fun r h' => (¬ r = 0 ↔ inR v nr) ∧ h' = h) := by
  have R := K.R
  refine Cm.of (by decide) (Nat.le_of_ble_eq_true rfl) (vX7_isTold_0 ⟨fun e => ⟨Or.inl rfl, _, rfl, ⟨fun z => absurd rfl z, fun z => absurd e ((inR_iff (by omega)).mpr z).1⟩, rfl⟩, fun e => ⟨K.k0, 67, K.r5, R.1.1, _, R.1.2.1, R.2.1.s.k, ?_⟩⟩)
  rw [R.2.1.nr]
  by_cases e2 : nI nr ≤ v
  · rw [if_pos e2]
    exact ⟨Or.inl rfl, _, rfl, ⟨fun z => absurd rfl z, fun z => absurd e2 ((inR_iff (by omega)).mpr z).2⟩, rfl⟩
  · rw [if_neg e2]
    exact ⟨Or.inr rfl, _, rfl, ⟨fun _ => (inR_iff (by omega)).mp ⟨e, e2⟩, fun _ => by decide⟩, rfl⟩
end Face1
