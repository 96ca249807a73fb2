/-! THE CLASS'S FACE: count, fits, look -/
section Face4
variable {l : Launch} {x : CX} {h h' : PH} {nc nf nr fi fi' tl a b : Nat} {t ct rt tp : Nat → Int32} {ow ow' : Nat → Nat} {D D' : DT} {fp : Int32} {I : Option DT} {S : Nat → Prop}
set_option maxHeartbeats 2000000 in
theorem k_count {v : Int32} (O : XN x) (K : KS h t ct rt nc nf nr D tl tp fp I) : CK l x mX7_count 8 [.ref 0, .int v] h (cntV D.1 t ct rt nc nf nr (rn D.1) D.2.1.1 D.2.2.1.1 tl D.2.2.2 v.toInt) exN (KQ h 0 0 (KZ t ct rt nc nf nr D tl tp fp I)) := by
  have Kr := K
  have Kq : KQ h 0 0 (KZ t ct rt nc nf nr D tl tp fp I) h := KQ.refl K
  obtain ⟨W, ow, fi, K⟩ := K
  have B := K.B
  have hC := W.1.c4
  have h24 := W.2.1.w.r24
  obtain ⟨⟨m, J⟩, G, _⟩ := id W.2.1.w
  obtain ⟨Y, eY, hY⟩ := W.2.1.2.2.1
  have hp : D.1 2 = 0 ∨ D.1 2 = 1 ∨ D.1 2 = 2 := G.p
  have R := K.R
  obtain ⟨v1, v2, v3, v4, v5, v6⟩ := id K.V
  generalize hA : cntV D.1 t ct rt nc nf nr (rn D.1) D.2.1.1 D.2.2.1.1 tl D.2.2.2 v.toInt = A
  have okq : ∀ (u u' : Int32) (g : PH), KQ h 0 0 (KZ t ct rt nc nf nr D tl tp fp I) g → A = .inl u' → u = u' → ∃ r, some (Value.int u) = some (.int r) ∧ A = .inl r ∧ KQ h 0 0 (KZ t ct rt nc nf nr D tl tp fp I) g := fun u u' g q e1 e2 => ⟨_, rfl, by rw [e1, e2], q⟩
  have ok0 : ∀ (u u' : Int32), A = .inl u' → u = u' → (hK h 140).1 = 1 ∧ ∃ r, some (Value.int u) = some (.int r) ∧ A = .inl r ∧ KQ h 0 0 (KZ t ct rt nc nf nr D tl tp fp I) h := fun u u' e1 e2 => ⟨B.s.k, okq u u' h Kq e1 e2⟩
  have ok1 : ∀ (M : MD) (d : Nat) (as : List Value) (u : Int32), CI l x M d 0 0 as h (fun r h' => r = u ∧ h' = h) → A = .inl u → (hK h 140).1 = 1 ∧ ∃ q : Int32 → PH → Prop, CI l x M d 0 0 as h q ∧ ∀ (r : Int32) (h1 : PH), q r h1 → ∃ r_1, some (Value.int r) = some (.int r_1) ∧ A = .inl r_1 ∧ KQ h 0 0 (KZ t ct rt nc nf nr D tl tp fp I) h1 := fun M d as u C e => ⟨B.s.k, _, C, by rintro r h1 ⟨e1, e2⟩; rw [e2]; exact okq r u h Kq e e1⟩
  have st : ∀ i : Nat, i < 3 → A = .inl (D.2.2.2 i) → ∃ b, hR h 139 5 = some b ∧ (hK h b).1 = 100 ∧ vp_in (nI i) (hK h b).2 ∧ ∃ r, some (Value.int (hI h b (nI i).toNatClampNeg)) = some (.int r) ∧ A = .inl r ∧ KQ h 0 0 (KZ t ct rt nc nf nr D tl tp fp I) h := fun i hi e => ⟨176, K.rf.1, by rw [K.rf.2], by rw [K.rf.2]; exact vp_in_nI hi (by decide), okq _ _ h Kq e (by rw [nI_clamp (by omega)]; exact v5.2.2 i hi)⟩
  refine Cm.of (by decide) (Nat.le_of_ble_eq_true rfl) (vX7_count_0 ⟨K.k0, 139, K.r6, K.kd, 140, K.r0, ?_⟩)
  refine ⟨fun e => ok0 _ _ (by rw [← hA, e]; rfl) B.fl, fun e => ok0 _ _ (by rw [← hA, e]; rfl) B.nc, fun e => ok0 _ _ (by rw [← hA, e]; rfl) B.nr, fun e => ok0 _ _ (by rw [← hA, e]; rfl) B.dw, fun e => ok0 _ _ (by rw [← hA, e]; rfl) B.la, fun e => ok0 _ _ (by rw [← hA, e]; rfl) B.po, fun e => ok0 _ _ (by rw [← hA, e]; rfl) B.pk, fun e => ok0 _ _ (by rw [← hA, e]; rfl) B.ti, fun e => ok0 _ (D.1 1) (by rw [← hA, e]; rfl) ?_, fun e => ok1 _ _ _ _ (k_howMany B.po' h24) (by rw [← hA, e]; rfl), fun e => ok1 _ _ _ _ (k_howMany B.po' h24) (by rw [← hA, e]; rfl), fun e => ok0 _ (mnyA D.1 3 (rn D.1)) (by rw [← hA, e]; rfl) (B.fi.trans (mny_cnt _).symm), fun e => ⟨B.s.k, _, k_callsWaiting O.n_RX1_140 B.po' J, ?_⟩, fun e => ok1 _ _ _ _ (k_passedInAll B hC) (by rw [← hA, e]; rfl), fun e => ok1 _ _ _ _ (k_waitedInAll B.po' h24) (by rw [← hA, e]; rfl), fun e => ok0 _ (if peakC D.1 t (min 8 (mm D.1)) = 0 then 0 else 1) (by rw [← hA, e]; rfl) (by rw [B.ru]), fun e => ok1 _ _ _ _ (k_worst B.po' h24) (by rw [← hA, e]; rfl), ?_⟩
  · rw [B.bu]
    rcases G.1 with z | z
    · rw [z, if_pos rfl]
    · rw [z, if_neg (by decide)]
  · rintro w _ ⟨hw, rfl⟩
    refine ⟨_, k_bitCountL, ?_⟩
    rintro r _ ⟨er, rfl⟩
    exact okq _ (nI (clN D.1 (rn D.1) (4 * nf))) _ Kq (by rw [← hA, e]; rfl) (by rw [er, calls_ct J hw])
  have rb : ∀ (M : MD) (d : Nat) (as : List Value) (u : Int32), CI l x M d 0 0 as h (fun r h' => r = u ∧ FrB 100 h h') → A = .inl u → ∃ q : Int32 → PH → Prop, CI l x M d 0 0 as h q ∧ ∀ (r : Int32) (h1 : PH), q r h1 → ∃ r_1, some (Value.int r) = some (.int r_1) ∧ A = .inl r_1 ∧ KQ h 0 0 (KZ t ct rt nc nf nr D tl tp fp I) h1 := fun M d as u C e => ⟨_, C, by rintro r h1 ⟨e1, p1⟩; exact okq r u h1 (K.rbQ W p1) e e1⟩
  have rx : ∀ (M : MD) (d : Nat) (as : List Value) (u : Int32), CI l x M d 0 0 as h (fun r h' => r = u ∧ FrX (67 + 33) (67 + 72) h h' ∧ RP h' 67 t ct rt nc nf nr) → A = .inl u → ∃ q : Int32 → PH → Prop, CI l x M d 0 0 as h q ∧ ∀ (r : Int32) (h1 : PH), q r h1 → ∃ r_1, some (Value.int r) = some (.int r_1) ∧ A = .inl r_1 ∧ KQ h 0 0 (KZ t ct rt nc nf nr D tl tp fp I) h1 := fun M d as u C e => ⟨_, C, by rintro r h1 ⟨e1, p1, R1⟩; exact okq r u h1 (K.rpQ W p1 R1) e e1⟩
  refine ⟨fun e => ⟨67, K.r5, B.s.k, R.1.1, ?_⟩, fun e => ⟨67, K.r5, B.s.k, R.1.1, ?_⟩, fun e => ⟨67, K.r5, B.s.k, R.1.1, ?_⟩, fun e => ⟨172, K.ra, v1.a.1, okq _ (nI D.2.1.1) h Kq (by rw [← hA, e]; rfl) v3.2.2.1⟩, fun e => okq _ (nI D.2.2.1.1) h Kq (by rw [← hA, e]; rfl) v5.1, fun e => ⟨1, K.rr, K.kr, okq _ (nI tl) h Kq (by rw [← hA, e]; rfl) K.2.2.2.1.1⟩, fun e => st 0 (by decide) (by rw [← hA, e]; rfl), fun e => st 1 (by decide) (by rw [← hA, e]; rfl), fun e => st 2 (by decide) (by rw [← hA, e]; rfl), fun e => ok1 _ _ _ _ (k_overtaken B.po' h24) (by rw [← hA, e]; rfl), fun e => ⟨67, K.r5, B.s.k, R.1.1, ?_⟩, fun e => ⟨B.s.k, _, k_workInAll B hC W.2.1.w.wk, ?_⟩, fun e => ⟨_, k_ticksToQuiet O Kr, ?_⟩, fun e => ⟨O.th_177, Nat.le_refl _, Nat.le_refl _, 1, by rw [← hA]; exact cnt_no e, rfl, Kq⟩⟩
  · rw [B.la, eY]
    exact rx _ _ _ _ (k_best O R W.1 hY) (by rw [← hA, e, ← eY]; rfl)
  · rw [B.la, B.po]
    exact rb _ _ _ _ (k_room O R W.1 hp) (by rw [← hA, e]; rfl)
  · rw [B.la, B.po]
    exact rb _ _ _ _ (k_missed O R W.1 hp) (by rw [← hA, e]; rfl)
  · rw [B.la, eY]
    exact rx _ _ _ _ (k_thrift O R W.1 hY) (by rw [← hA, e, ← eY]; rfl)
  · rintro r _ ⟨er, rfl⟩
    exact okq _ (FP.f2i (wrkA D.1 nc)) _ Kq (by rw [← hA, e]; rfl) (by rw [er])
  · rintro r h1 ⟨er, q1⟩
    exact okq _ (quV t ct (rn D.1) nf nc D.1) h1 q1 (by rw [← hA, e]; rfl) er
/-- all runs by a policy and a late are known, and which of them fit -/
def FT (h : PH) (t ct rt : Nat → Int32) (nc nf nr : Nat) (D : DT) (v : Int64) (h' : PH) : Prop := FrX 100 139 h h' ∧ RP h' 67 t ct rt nc nf nr ∧ (∀ k, k < 36 → ¬ hI h' 132 k = 0) ∧ ∀ k, k < 64 → (bL v k = true ↔ k < 36 ∧ ftB (enV t ct rt nc nf nr) D.2.2.1.1 D.2.2.1.2.1 D.2.2.1.2.2 k = true)
theorem k_allThatFit (O : XN x) (K : KO h ow fi t ct rt nc nf nr D tl tp fp I) (W : SO t ct rt nc nf nr D I) : CJ l x mX7_allThatFit 6 0 0 [.ref 0] h (fun v h' => FT h t ct rt nc nf nr D v h') := by
  have h8 : D.2.2.1.1 ≤ 8 := W.2.1.1.2.2.2
  have h20 := W.1.r20
  obtain ⟨v1, v2, v3, v4, v5, v6⟩ := id K.V
  generalize hT : (fun (v : Option Value) (h' : PH) => ∃ r, v = some (.long r) ∧ FT h t ct rt nc nf nr D r h') = T
  have inner : ∀ (g : PH) (P Y : Nat) (L : Int64), P < 3 → Y < 12 → FrX 100 139 h g → RP g 67 t ct rt nc nf nr → MV g 67 nc nr (rnF t ct rt nc nf nr (12 * P + Y)) (12 * P + Y) → (∀ L', L' = (if ftB (enV t ct rt nc nf nr) D.2.2.1.1 D.2.2.1.2.1 D.2.2.1.2.2 (12 * P + Y) = true then L ||| lsh 1 (nI (12 * P + Y)) else L) → Gm l x mX7_allThatFit 6 12 [(0, .ref 0), (1, .long L'), (3, .int (nI P)), (4, .int (nI (Y + 1)))] [] g 0 0 (hN h) T (fun _ _ => False)) → ∀ (j i : Nat) (so : Int32), i + j = D.2.2.1.1 → (¬ so = 0 ↔ ∀ i', i' < i → enV t ct rt nc nf nr (12 * P + Y) (D.2.2.1.2.1 i').toNatClampNeg = D.2.2.1.2.2 i') → Gm l x mX7_allThatFit 6 37 [(0, .ref 0), (1, .long L), (3, .int (nI P)), (4, .int (nI Y)), (5, .int (nI (12 * P + Y))), (6, .int so), (7, .int (nI i))] [] g 0 0 (hN h) T (fun _ _ => False) := by
    intro g P Y L hP hY p Rg M cont j
    have A7 := p.ac (c := 139) (by decide)
    have A2 := p.ac (c := 174) (by decide)
    have A3 := p.ac (c := 175) (by decide)
    have k0 : (hK g 0).1 = 7 := by rw [p.hK]; exact K.k0
    have r6 : hR g 0 4 = some 139 := by rw [p.hR]; exact K.r6
    have r5 : hR g 0 3 = some 67 := by rw [p.hR]; exact K.r5
    have kd : (hK g 139).1 = 3 := by rw [p.hK]; exact K.kd
    have n4 : hI g 139 4 = nI D.2.2.1.1 := by rw [A7.hI]; exact v5.1
    induction j with
    | zero =>
      intro i so hi hso
      obtain rfl : i = D.2.2.1.1 := by omega
      refine vX7_allThatFit_37 ⟨k0, 139, r6, kd, fun _ => ?_, fun z => absurd (by rw [n4]; exact nI_le (Nat.le_refl _) (by omega)) z⟩
      rw [show nI Y + 1 = nI (Y + 1) from nI_add Y 1]
      refine cont _ ?_
      have eb : ftB (enV t ct rt nc nf nr) D.2.2.1.1 D.2.2.1.2.1 D.2.2.1.2.2 (12 * P + Y) = true ↔ ¬ so = 0 := by
        unfold ftB
        rw [decide_eq_true_eq]
        exact hso.symm
      by_cases z : so = 0
      · rw [if_pos z, if_neg fun q => eb.mp q z]
      · rw [if_neg z, if_pos (eb.mpr z)]
    | succ j ih =>
      intro i so hi hso
      have i8 : i < 8 := by omega
      refine vX7_allThatFit_37 ⟨k0, 139, r6, kd, fun z => absurd z (by rw [n4]; exact nI_ge (by omega) (by omega)), fun _ => ?_⟩
      rw [show nI i + 1 = nI (i + 1) from nI_add i 1]
      refine ⟨fun z => ih (i + 1) 0 (by omega) ⟨fun y => absurd rfl y, fun y => absurd z (hso.mpr fun i' hi' => y i' (by omega))⟩, fun z => ?_⟩
      have ci : (nI i).toNatClampNeg = i := nI_clamp (by omega)
      obtain ⟨rr, hrr, err⟩ := W.2.1.2.1 i (by omega)
      have er : hI g 174 i = nI rr := by rw [A2.hI, ← err]; exact (v5.2.1 i (by omega)).1
      have et : hI g 175 i = D.2.2.1.2.2 i := by rw [A3.hI]; exact (v5.2.1 i (by omega)).2
      have k142 : hK g 174 = (100, 8) := by rw [p.hK]; exact v1.2.2.2.2.1
      have k143 : hK g 175 = (100, 8) := by rw [p.hK]; exact v1.2.2.2.2.2.2.1
      refine ⟨67, r5, 174, by rw [p.hR]; exact v1.2.2.2.1, by rw [k142], by rw [k142]; exact vp_in_nI i8 (by decide), Rg.1.1, _, by rw [ci, er]; exact k_doneTime Rg.1 (show 12 * P + Y < 36 by omega) (show rr < 20 by omega), ?_⟩
      rintro d _ ⟨ed, rfl⟩
      refine ⟨k0, 139, r6, kd, 175, by rw [p.hR]; exact v1.2.2.2.2.2.1, by rw [k143], by rw [k143]; exact vp_in_nI i8 (by decide), ?_⟩
      rintro y ey
      have en : d = enV t ct rt nc nf nr (12 * P + Y) (D.2.2.1.2.1 i).toNatClampNeg := by
        rw [ed, M.2.2.2.2.2 rr hrr, err, nI_clamp (by omega)]
        rfl
      refine ih (i + 1) y (by omega) ?_
      rw [ey, ci, et]
      have all := hso.mp z
      by_cases q : d = D.2.2.1.2.2 i
      · rw [if_pos q]
        refine ⟨fun _ i' hi' => ?_, fun _ => by decide⟩
        rcases Nat.lt_or_ge i' i with z1 | z1
        · exact all i' z1
        · obtain rfl : i' = i := by omega
          rw [← en]; exact q
      · rw [if_neg q]
        exact ⟨fun y => absurd rfl y, fun y => absurd (en.trans (y i (by omega))) q⟩
  have run12 : ∀ (P : Nat), P < 3 → (∀ g L, FrX 100 139 h g → RP g 67 t ct rt nc nf nr → (∀ k, k < 12 * (P + 1) → ¬ hI g 132 k = 0) → (∀ k, k < 64 → (bL L k = true ↔ k < 12 * (P + 1) ∧ ftB (enV t ct rt nc nf nr) D.2.2.1.1 D.2.2.1.2.1 D.2.2.1.2.2 k = true)) → Gm l x mX7_allThatFit 6 4 [(0, .ref 0), (1, .long L), (3, .int (nI (P + 1)))] [] g 0 0 (hN h) T (fun _ _ => False)) → ∀ (j Y : Nat) (g : PH) (L : Int64), Y + j = 12 → FrX 100 139 h g → RP g 67 t ct rt nc nf nr → (∀ k, k < 12 * P + Y → ¬ hI g 132 k = 0) → (∀ k, k < 64 → (bL L k = true ↔ k < 12 * P + Y ∧ ftB (enV t ct rt nc nf nr) D.2.2.1.1 D.2.2.1.2.1 D.2.2.1.2.2 k = true)) → Gm l x mX7_allThatFit 6 12 [(0, .ref 0), (1, .long L), (3, .int (nI P)), (4, .int (nI Y))] [] g 0 0 (hN h) T (fun _ _ => False) := by
    intro P hP next j
    induction j with
    | zero =>
      intro Y g L hY p Rg kn bt
      obtain rfl : Y = 12 := by omega
      refine vX7_allThatFit_12 ⟨fun _ => ?_, fun z => absurd (nI_le (Nat.le_refl _) (by decide)) z⟩
      rw [show nI P + 1 = nI (P + 1) from nI_add P 1]
      exact next g L p Rg kn bt
    | succ j ih =>
      intro Y g L hY p Rg kn bt
      refine vX7_allThatFit_12 ⟨fun z => absurd z (nI_ge (b := 12) (by omega) (by decide)), fun _ => ⟨by rw [p.hK]; exact K.k0, 67, by rw [p.hR]; exact K.r5, Rg.1.1, _, k_run O Rg W.1 hP (show Y < 12 by omega), ?_⟩⟩
      rintro _ g1 ⟨rfl, q1, q2, q3, q4, q5⟩
      refine inner g1 P Y L hP (by omega) (p.trans q1) q2 q3 (fun L' eL => ?_) D.2.2.1.1 0 1 (by omega) ⟨fun _ i' z => absurd z (Nat.not_lt_zero _), fun _ => by decide⟩
      refine ih (Y + 1) g1 L' (by omega) (p.trans q1) q2 (fun k hk => ?_) (fun k hk => ?_)
      · rcases Nat.lt_or_ge k (12 * P + Y) with z | z
        · exact q5 k (by omega) (kn k z)
        · obtain rfl : k = 12 * P + Y := by omega
          exact q4
      · rw [eL]
        by_cases z : ftB (enV t ct rt nc nf nr) D.2.2.1.1 D.2.2.1.2.1 D.2.2.1.2.2 (12 * P + Y) = true
        · rw [if_pos z, bL_set _ _ (by omega) hk]
          by_cases y : k = 12 * P + Y
          · rw [if_pos y, y]
            exact ⟨fun _ => ⟨by omega, z⟩, fun _ => rfl⟩
          · rw [if_neg y, bt k hk]
            exact ⟨fun q => ⟨by omega, q.2⟩, fun q => ⟨by omega, q.2⟩⟩
        · rw [if_neg z, bt k hk]
          refine ⟨fun q => ⟨by omega, q.2⟩, fun q => ⟨?_, q.2⟩⟩
          rcases Nat.lt_or_ge k (12 * P + Y) with y | y
          · exact y
          · obtain rfl : k = 12 * P + Y := by omega
            exact absurd q.2 z
  have run4 : ∀ (j P : Nat) (g : PH) (L : Int64), P + j = 3 → FrX 100 139 h g → RP g 67 t ct rt nc nf nr → (∀ k, k < 12 * P → ¬ hI g 132 k = 0) → (∀ k, k < 64 → (bL L k = true ↔ k < 12 * P ∧ ftB (enV t ct rt nc nf nr) D.2.2.1.1 D.2.2.1.2.1 D.2.2.1.2.2 k = true)) → Gm l x mX7_allThatFit 6 4 [(0, .ref 0), (1, .long L), (3, .int (nI P))] [] g 0 0 (hN h) T (fun _ _ => False) := by
    intro j
    induction j with
    | zero =>
      intro P g L hP p Rg kn bt
      obtain rfl : P = 3 := by omega
      refine vX7_allThatFit_4 ⟨fun _ => ?_, fun z => absurd (nI_le (Nat.le_refl _) (by decide)) z⟩
      rw [← hT]
      exact ⟨_, rfl, p, Rg, kn, bt⟩
    | succ j ih =>
      intro P g L hP p Rg kn bt
      refine vX7_allThatFit_4 ⟨fun z => absurd z (nI_ge (b := 3) (by omega) (by decide)), fun _ => ?_⟩
      exact run12 P (by omega) (fun g1 L1 p1 R1 k1 b1 => ih (P + 1) g1 L1 (by omega) p1 R1 k1 b1) 12 0 g L rfl p Rg kn bt
  refine Cm.of (by decide) (Nat.le_of_ble_eq_true rfl) (vX7_allThatFit_0 ?_)
  rw [hT]
  exact run4 3 0 h 0 rfl (FrX.refl _ _ _) K.R (fun k z => absurd z (by omega)) (fun k hk => ⟨fun z => (by rw [bL_0] at z; cases z), fun z => absurd z.1 (by omega)⟩)
theorem ff_some {p : Nat → Bool} : ∀ n, n ≤ 36 → (ffA p n = -1 ∧ ∀ i, i < n → p i = false) ∨ ∃ k, k < n ∧ ffA p n = nI k ∧ p k = true ∧ ∀ i, i < k → p i = false
  | 0, _ => Or.inl ⟨rfl, fun i hi => absurd hi (Nat.not_lt_zero _)⟩
  | n + 1, hn => by
    rcases ff_some (p := p) n (by omega) with ⟨e1, e2⟩ | ⟨k, h1, h2, h3, h4⟩
    · unfold ffA
      rw [if_pos e1]
      cases hq : p n with
      | true => exact Or.inr ⟨n, by omega, if_pos rfl, hq, e2⟩
      | false =>
        refine Or.inl ⟨if_neg (by decide), fun i hi => ?_⟩
        rcases Nat.lt_or_ge i n with z | z
        · exact e2 i z
        · obtain rfl : i = n := by omega
          exact hq
    · unfold ffA
      rw [if_neg (fun z => neg1 (k := k) (by omega) (h2.symm.trans z))]
      exact Or.inr ⟨k, by omega, h2, h3, h4⟩
theorem k_fits {k : Int32} (O : XN x) (K : KS h t ct rt nc nf nr D tl tp fp I) : CK l x mX7_fits 8 [.ref 0, .int k] h (aFits (ftB (enV t ct rt nc nf nr) D.2.2.1.1 D.2.2.1.2.1 D.2.2.1.2.2) k) exN (KQ h 0 0 (KZ t ct rt nc nf nr D tl tp fp I)) := by
  have Kq : KQ h 0 0 (KZ t ct rt nc nf nr D tl tp fp I) h := KQ.refl K
  obtain ⟨W, ow, fi, K⟩ := K
  generalize hp : ftB (enV t ct rt nc nf nr) D.2.2.1.1 D.2.2.1.2.1 D.2.2.1.2.2 = p
  refine Cm.of (by decide) (Nat.le_of_ble_eq_true rfl) (vX7_fits_0 ⟨fun e => ⟨O.th_370, Nat.le_refl _, Nat.le_refl _, 1, ite'_f (inR_n0 (by decide) e), rfl, Kq⟩, fun e => ⟨fun e2 => ⟨K.k0, _, k_allThatFit O K W, ?_⟩, fun e2 => ⟨O.th_370, Nat.le_refl _, Nat.le_refl _, 1, ite'_f (inR_nK (n := 2) rfl (by decide) e2), rfl, Kq⟩⟩⟩)
  have ik : inR k 2 := inR_mk (n := 2) rfl (by decide) e e2
  have yes : aFits p k = .inl (if k = 0 then nI (fb_ct p 36) else ffA p 36) := ite'_t ik
  rintro v h1 ⟨q1, q2, q3, q4⟩
  rw [hp] at q4
  have Q1 := K.rpQ W q1 q2
  refine ⟨fun e3 => ⟨fun e4 => ?_, fun e4 => ⟨_, rfl, ?_, Q1⟩⟩, fun e3 => ⟨_, k_bitCountL, ?_⟩⟩
  · have nz : ¬ v = 0 := fun z => e4 (lg0.mpr z)
    rcases ff_some (p := p) 36 (Nat.le_refl _) with ⟨f1, f2⟩ | ⟨i, i1, f1, f2, f3⟩
    · obtain ⟨j, hj, bj⟩ := bL_nz.mp nz
      have := (q4 j hj).mp bj
      rw [f2 j this.1] at this
      exact absurd this.2 (by decide)
    · refine ⟨_, k_ntzL (k := i) (by omega) ((q4 i (by omega)).mpr ⟨i1, f2⟩) (fun j hj => ?_), ?_⟩
      · cases hb : bL v j with
        | false => rfl
        | true =>
          have := ((q4 j (by omega)).mp hb).2
          rw [f3 j hj] at this
          exact absurd this (by decide)
      · rintro r _ ⟨er, rfl⟩
        exact ⟨_, rfl, by rw [yes, if_neg e3, f1, er], Q1⟩
  · have z : v = 0 := lg0.mp e4
    rcases ff_some (p := p) 36 (Nat.le_refl _) with ⟨f1, f2⟩ | ⟨i, i1, f1, f2, f3⟩
    · rw [yes, if_neg e3, f1]
    · have := (q4 i (by omega)).mpr ⟨i1, f2⟩
      rw [z, bL_0] at this
      exact absurd this (by decide)
  · rintro r _ ⟨er, rfl⟩
    refine ⟨_, rfl, ?_, Q1⟩
    rw [yes, if_pos e3, er]
    have s1 := fb_ct_split (bL v) 36 28
    have s2 : fb_ct (fun k => bL v (36 + k)) 28 = 0 := fb_ct_zero.mpr fun k hk => by
      cases hb : bL v (36 + k) with
      | false => rfl
      | true => have := ((q4 (36 + k) (by omega)).mp hb).1; omega
    have s3 : fb_ct (bL v) 36 = fb_ct p 36 := fb_ct_cong fun k hk => by
      have := q4 k (by omega)
      cases hb : bL v k with
      | false =>
        cases hq : p k with
        | false => rfl
        | true => rw [hb] at this; exact absurd (this.mpr ⟨hk, hq⟩) (by decide)
      | true => exact ((this.mp hb).2).symm
    rw [s2, s3] at s1
    rw [show fb_ct (bL v) 64 = fb_ct p 36 from s1]
theorem k_look {k : Int32} (O : XN x) (K : KS h t ct rt nc nf nr D tl tp fp I) : CK l x mX7_look 8 [.ref 0, .int k] h (aLook (ftB (enV t ct rt nc nf nr) D.2.2.1.1 D.2.2.1.2.1 D.2.2.1.2.2) (enV t ct rt nc nf nr) nr k) exN (KQ h 0 0 (KZ t ct rt nc nf nr D tl tp fp I)) := by
  have Kq : KQ h 0 0 (KZ t ct rt nc nf nr D tl tp fp I) h := KQ.refl K
  obtain ⟨W, ow, fi, K⟩ := K
  have h20 := W.1.r20
  generalize hp : ftB (enV t ct rt nc nf nr) D.2.2.1.1 D.2.2.1.2.1 D.2.2.1.2.2 = p
  refine Cm.of (by decide) (Nat.le_of_ble_eq_true rfl) (vX7_look_0 ⟨fun e => ⟨O.th_378, Nat.le_refl _, Nat.le_refl _, 1, ite'_f (inR_n0 (by decide) e), rfl, Kq⟩, fun e => ⟨fun e2 => ⟨K.k0, _, k_allThatFit O K W, ?_⟩, fun e2 => ⟨O.th_378, Nat.le_refl _, Nat.le_refl _, 1, ite'_f (inR_nK (n := 2) rfl (by decide) e2), rfl, Kq⟩⟩⟩)
  have ik : inR k 2 := inR_mk (n := 2) rfl (by decide) e e2
  generalize hu : (fun r => nI (fb_ct (ulB p (fun j => enV t ct rt nc nf nr j r)) 36)) = u
  have yes : aLook p (enV t ct rt nc nf nr) nr k = .inl (if k = 0 then (lkA u nr).1 else (lkA u nr).2) := by rw [← hu]; exact ite'_t ik
  rintro v h1 ⟨q1, q2, q3, q4⟩
  rw [hp] at q4
  have Q1 := K.rpQ W q1 q2
  have bE : ∀ j, j < 36 → bL v j = p j := fun j hj => by
    have := q4 j (by omega)
    cases hb : bL v j with
    | false =>
      cases hq : p j with
      | false => rfl
      | true => rw [hb] at this; exact absurd (this.mpr ⟨hj, hq⟩) (by decide)
    | true => exact ((this.mp hb).2).symm
  have eE : ∀ j r, j < 36 → r < nr → hI h1 (67 + 71) (20 * j + r) = enV t ct rt nc nf nr j r := fun j r hj hr => (q2.2.2.2 j hj (q3 j hj)).2.2.2.2.2 r hr
  have uE : ∀ r, r < nr → nI (fb_ct (ulB (bL v) (fun j => hI h1 (67 + 71) (20 * j + r))) 36) = u r := fun r hr => by
    rw [← hu]
    refine congrArg nI (fb_ct_cong fun j hj => ?_)
    unfold ulB
    rw [bE j hj]
    congr 1
    refine decide_eq_decide.mpr ⟨fun q i hi pi => ?_, fun q i hi pi => ?_⟩
    · show ¬ enV t ct rt nc nf nr i r = enV t ct rt nc nf nr j r
      rw [← eE i r (by omega) hr, ← eE j r hj hr]
      exact q i hi (by rw [bE i (by omega)]; exact pi)
    · show ¬ hI h1 (67 + 71) (20 * i + r) = hI h1 (67 + 71) (20 * j + r)
      rw [eE i r (by omega) hr, eE j r hj hr]
      exact q i hi (by rw [← bE i (by omega)]; exact pi)
  have loop : ∀ (j i : Nat), i + j = nr → Gm l x mX7_look 8 34 [(0, .ref 0), (1, .int k), (2, .long v), (4, .int (lkA u i).1), (5, .int (lkA u i).2), (6, .int (nI i))] [] h1 1 6 (hN h) (fun v h' => ∃ r_1, v = some (Value.int r_1) ∧ aLook p (enV t ct rt nc nf nr) nr k = Sum.inl r_1 ∧ KQ h 0 0 (KZ t ct rt nc nf nr D tl tp fp I) h') (fun c h' => ∃ q, aLook p (enV t ct rt nc nf nr) nr k = Sum.inr q ∧ c = exN q ∧ KQ h 0 0 (KZ t ct rt nc nf nr D tl tp fp I) h') := by
    have k0 : (hK h1 0).1 = 7 := by rw [q1.hK]; exact K.k0
    have r5 : hR h1 0 3 = some 67 := by rw [q1.hR]; exact K.r5
    intro j
    induction j with
    | zero =>
      intro i hi
      obtain rfl : i = nr := by omega
      exact vX7_look_34 ⟨k0, 67, r5, q2.1.1, _, q2.1.2.1, q2.2.1.s.k, fun _ => ⟨_, rfl, yes, Q1⟩, fun z => absurd (by rw [q2.2.1.nr]; exact nI_le (Nat.le_refl _) (by omega)) z⟩
    | succ j ih =>
      intro i hi
      refine vX7_look_34 ⟨k0, 67, r5, q2.1.1, _, q2.1.2.1, q2.2.1.s.k, fun z => absurd z (by rw [q2.2.1.nr]; exact nI_ge (by omega) (by omega)), fun _ => ⟨_, k_unlike q2.1 (show i < 20 by omega), ?_⟩⟩
      rintro w _ ⟨ew, rfl⟩
      rw [uE i (by omega)] at ew
      rw [show nI i + 1 = nI (i + 1) from nI_add i 1, ew]
      have ih' := ih (i + 1) (by omega)
      rw [show lkA u (i + 1) = (if (lkA u i).2 < u i then (nI i, u i) else lkA u i) from rfl] at ih'
      by_cases z : u i ≤ (lkA u i).2
      · rw [if_neg (Int32.not_lt.mpr z)] at ih'
        rw [if_pos z, if_pos z]
        exact ih'
      · rw [if_pos (Int32.not_le.mp z)] at ih'
        rw [if_neg z, if_neg z]
        exact ih'
  exact loop nr 0 (by omega)
end Face4
