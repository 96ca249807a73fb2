/-! THE REFERENCE'S FACE: mean, anew, homes, later -/
noncomputable def aHomes (f t ct rt : Nat → Int32) (nc nf nr : Nat) (c k : Int32) : Int32 ⊕ Nat := ite' (inR c nc ∧ inR k 2) (.inl (if k = 0 then (hmA (fun n => wtdA (run t ct nc nf nr (up (up (anF t ct rt nc nr (f 2) (f 3)) (16 + 8 * c.toNatClampNeg + 6) (nI n)) (16 + 8 * c.toNatClampNeg) (nI n))) nr) nf).1 else (hmA (fun n => wtdA (run t ct nc nf nr (up (up (anF t ct rt nc nr (f 2) (f 3)) (16 + 8 * c.toNatClampNeg + 6) (nI n)) (16 + 8 * c.toNatClampNeg) (nI n))) nr) nf).2)) (.inr 1)
noncomputable def aLater (f t ct rt : Nat → Int32) (nc nf nr : Nat) (r : Int32) : Int32 ⊕ Nat := ite' (inR r nr) (.inl (if eaP t ct rt nc nf nr (f 2) (f 3) r.toNatClampNeg 0 = -1 then 0 else ltA (fun n => eaP t ct rt nc nf nr (f 2) (f 3) r.toNatClampNeg (nI n)) (eaP t ct rt nc nf nr (f 2) (f 3) r.toNatClampNeg 0) (min 20 (99 - (rt (4 * r.toNatClampNeg + 1)).toNatClampNeg)))) (.inr 1)
section Pub3
variable {l : Launch} {x : CX} {mo nc nf nr nr' m : Nat} {g : PH} {f F t ct rt : Nat → Int32}
theorem c_isRule {p y : Int32} {g : PH} : CI l x mX8_isRule 1 0 0 [.int p, .int y] g (fun r h' => (¬ r = 0 ↔ inR p 3 ∧ inR y 12) ∧ h' = g) := by
  have i1 : (¬ (if p < 0 then 0 else (if 2 < p then 0 else 1 : Int32) : Int32) = 0) ↔ inR p 3 := inR_k (n := 3) rfl (by decide)
  have i2 : (¬ (if y < 0 then 0 else (if 11 < y then 0 else 1 : Int32) : Int32) = 0) ↔ inR y 12 := inR_k (n := 12) rfl (by decide)
  refine Cm.of (by decide) (Nat.le_of_ble_eq_true rfl) (vX8_isRule_0 ⟨_, c_isIn, ?_⟩)
  rintro _ _ ⟨rfl, rfl⟩
  refine ⟨fun e => ⟨by decide, _, rfl, ⟨fun z => absurd rfl z, fun z => absurd e (i1.mpr z.1)⟩, rfl⟩, fun e => ⟨_, c_isIn, ?_⟩⟩
  rintro _ _ ⟨rfl, rfl⟩
  by_cases e2 : (if y < 0 then 0 else (if 11 < y then 0 else 1 : Int32) : Int32) = 0
  · rw [if_pos e2]
    exact ⟨by decide, _, rfl, ⟨fun z => absurd rfl z, fun z => absurd e2 (i2.mpr z.2)⟩, rfl⟩
  · rw [if_neg e2]
    exact ⟨by decide, _, rfl, ⟨fun _ => ⟨i1.mp e, i2.mp e2⟩, fun _ => by decide⟩, rfl⟩
theorem inR3 {p : Int32} (h : inR p 3) : p = 0 ∨ p = 1 ∨ p = 2 := by
  obtain ⟨c, hc, rfl⟩ := h
  exact p012 c hc
theorem p_mean {p y : Int32} (w : RX mo t ct rt g) (q : NR mo g f) (T : TD t ct rt nc nf nr) : CI l x mX8_mean 13 0 0 [.ref mo, .int p, .int y] g (fun v h' => PQ mo g f (aMean t ct rt nc nf nr p y) v h') := by
  have h20 := T.r20
  have w1 : RX mo t ct rt (sI g mo 1 0) := w.sg s10
  refine Cm.of (by decide) (Nat.le_of_ble_eq_true rfl) (vX8_mean_0 ⟨w.1.1.1, _, c_isRule, ?_⟩)
  rintro r5 _ ⟨i1, rfl⟩
  refine ⟨fun e => ⟨w1.1.1.1, _, r_anewBegins w1 q.s1 T.tk.2 T.c4 T.t2 T.r20, ?_⟩, fun e => PQ.mkFail rfl w1.1.1 (SG.refl _ _) q.s1 (ite'_f fun z => i1.mpr z e)⟩
  rintro h9 ⟨s9, n9, e9⟩
  have w9 := w1.sb s9 (by decide) (by decide) (by decide)
  have hp := inR3 (i1.mp e).1
  refine ⟨w9.1.1.1, _, r_anewWaited w9 n9 T.tk (Row_an T hp) e9, ?_⟩
  rintro _ h13 ⟨rfl, s13, n13⟩
  have w13 := w9.sb s13 (by decide) (by decide) (by decide)
  have w4 := w13.1.1.row 4 4 7 (by decide)
  have iv : vp_in 2 (hK h13 (mo + 4)).2 := by rw [w4.2.2]; exact vp_in_nI (n := 2) (by decide) (by decide)
  have sg : SG (scr mo) (sI g mo 1 0) h13 := (s9.sg (by decide)).trans (s13.sg (by decide))
  have c0 : hI h13 mo 1 = 0 := by rw [s13.fldE (by decide), s9.fldE (by decide)]; exact gI _ _ _ _
  obtain ⟨v, hv, hv2⟩ := (New_an (y := y) T hp).w (t := t) 200 (Nat.le_refl _)
  refine ⟨w13.1.1.1, mo + 4, w4.1, w4.2.1, iv, iv, ?_⟩
  rw [show hI h13 (mo + 4) (Int32.toNatClampNeg 2) = nI nr from (w13.1.2.1 2).trans T.t2]
  have ea : aMean t ct rt nc nf nr p y = .inl (if nr = 0 then 0 else (FP.fdiv (FP.i2f (wtdA (run t ct nc nf nr (anF t ct rt nc nr p y)) nr)) (FP.i2f (nI nr))).toInt32) := ite'_t (i1.mp e)
  refine ⟨fun e2 => ?_, fun e2 => ?_⟩
  · have hn : ¬ nr = 0 := fun z => e2 (by rw [z]; rfl)
    have fk : Fok (FP.fdiv (FP.i2f (wtdA (run t ct nc nf nr (anF t ct rt nc nr p y)) nr)) (FP.i2f (nI nr))) := by
      rw [show wtdA (run t ct nc nf nr (anF t ct rt nc nr p y)) nr = nI v from hv]
      exact fdiv_ok (i2f_n (by omega)).1 ((i2f_n (by omega)).2 (by omega)) (i2f_n (by omega)).1
    refine ⟨fk.n, ?_⟩
    rintro y24 rfl
    refine ⟨_, fbits l x _ _ fk, ?_⟩
    rintro _ h28 ⟨rfl, rfl⟩
    exact ⟨_, rfl, PQ.mkOk sg n13 ea (by rw [if_neg hn]) c0⟩
  · have hn : nr = 0 := (nI_eq (b := 0) (by omega) (by decide)).mp e2
    refine ⟨_, fbits l x _ _ f_0, ?_⟩
    rintro _ h28 ⟨rfl, rfl⟩
    exact ⟨_, rfl, PQ.mkOk sg n13 ea (by rw [if_pos hn]; rfl) c0⟩
theorem p_anew {p y k : Int32} (w : RX mo t ct rt g) (q : NR mo g f) (T : TD t ct rt nc nf nr) : CI l x mX8_anew 12 0 0 [.ref mo, .int p, .int y, .int k] g (fun v h' => PQ mo g f (aAnew t ct rt nc nf nr p y k) v h') := by
  have h20 := T.r20
  have w1 : RX mo t ct rt (sI g mo 1 0) := w.sg s10
  have i1 : (¬ (if k < 0 then 0 else (if 2 < k then 0 else 1 : Int32) : Int32) = 0) ↔ inR k 3 := inR_k (n := 3) rfl (by decide)
  refine Cm.of (by decide) (Nat.le_of_ble_eq_true rfl) (vX8_anew_0 ⟨w.1.1.1, _, c_isIn, ?_⟩)
  rintro _ _ ⟨rfl, rfl⟩
  refine ⟨fun e => ⟨_, c_isRule, ?_⟩, fun e => PQ.mkFail rfl w1.1.1 (SG.refl _ _) q.s1 (ite'_f fun z => i1.mpr z e)⟩
  rintro r10 _ ⟨i2, rfl⟩
  refine ⟨fun e2 => ⟨w1.1.1.1, _, r_anewBegins w1 q.s1 T.tk.2 T.c4 T.t2 T.r20, ?_⟩, fun e2 => PQ.mkFail rfl w1.1.1 (SG.refl _ _) q.s1 ((ite'_t (i1.mp e)).trans (ite'_f fun z => i2.mpr z e2))⟩
  rintro h9 ⟨s9, n9, e9⟩
  have w9 := w1.sb s9 (by decide) (by decide) (by decide)
  have hp := inR3 (i2.mp e2).1
  have W9 := Row_an (y := y) T hp
  refine ⟨w9.1.1.1, _, r_ticks (n := 200) w9.1 n9 T.tk W9 (by decide), ?_⟩
  rintro h23 ⟨s23, n23⟩
  obtain ⟨K, hK, rfl⟩ := i1.mp e
  have ea : aAnew t ct rt nc nf nr p y (nI K) = .inl (anV (run t ct nc nf nr (anF t ct rt nc nr p y)) nr K) := by
    refine ((ite'_t ⟨K, hK, rfl⟩).trans (ite'_t (i2.mp e2))).trans ?_
    rw [nI_clamp (by omega)]
  obtain ⟨⟨m', I'⟩, _⟩ := W9.ticks T.tk.1 200
  have loop : ∀ (j r : Nat) (h : PH), r + j = nr → SB [2, 11, 12] mo (sI g mo 1 0) h → NR mo h (run t ct nc nf nr (anF t ct rt nc nr p y)) → (∀ j, j < 312 → hI h (mo + 12) j = f j) → Gm l x mX8_anew 12 53 [(0, .ref mo), (1, .int p), (2, .int y), (3, .int (nI K)), (4, .int (latA (run t ct nc nf nr (anF t ct rt nc nr p y)) r)), (5, .int (nI r))] [] h 0 0 (hN g) (fun v h' => ∃ r, v = some (.int r) ∧ PQ mo g f (aAnew t ct rt nc nf nr p y (nI K)) r h') (fun _ _ => False) := by
    intro j
    induction j with
    | zero =>
      intro r h hr sh nh eh
      obtain rfl : r = nr := by omega
      have wh := w1.sb sh (by decide) (by decide) (by decide)
      have w2 := wh.1.1.row 2 2 312 (by decide)
      have e1 : hI h mo 1 = 0 := by rw [sh.fldE (by decide)]; exact gI _ _ _ _
      have bk : ∀ (h' : PH) (v : Int32), SB [2] mo h h' → v = anV (run t ct nc nf r (anF t ct rt nc r p y)) r K → ∃ b10, hR h' mo 2 = some b10 ∧ ∃ b12, hR h' mo 23 = some b12 ∧ ∃ q14 : PH → Prop, CV l x mX8_copyTo 0 0 0 [.ref b10, .ref b12] h' q14 ∧ ∀ h16 : PH, q14 h16 → ∃ r', some (Value.int v) = some (.int r') ∧ PQ mo g f (aAnew t ct rt nc nf r p y (nI K)) r' h16 := by
        intro h' v s' ev
        exact PQ.back (wh.sb s' (by decide) (by decide) (by decide)).1.1 ((sh.sg (by decide)).trans (s'.sg (by decide))) (fun j hj => by rw [s'.rowE (by decide)]; exact eh j hj) (by rw [ea, ev]) (by rw [s'.fldE (by decide)]; exact e1)
      refine vX8_anew_53 ⟨wh.1.1.1, mo + 2, w2.1, w2.2.1, by rw [w2.2.2]; exact vp_in_nI (n := 6) (by decide) (by decide), fun _ => ?_, fun e => absurd ?_ e⟩
      · refine ⟨fun k0 => ⟨fun k1 => ⟨by rw [w2.2.2]; exact vp_in_nI (n := 5) (by decide) (by decide), ?_⟩, fun k1 => ?_⟩, fun k0 => ⟨_, r_same wh.1.1 nh (c_many wh.1.1 I'.h6 I'.hr), ?_⟩⟩
        · have z0 : ¬ K = 0 := fun z => k0 (by rw [z]; rfl)
          have z1 : ¬ K = 1 := fun z => k1 (by rw [z]; rfl)
          obtain ⟨b10, y1, b12, y2, y3⟩ := bk h (hI h (mo + 2) (Int32.toNatClampNeg 5)) (SB.refl _ _ _) (by rw [anV, if_neg z0, if_neg z1]; exact nh.at 5 (by decide))
          obtain rfl : b10 = mo + 2 := Option.some.inj (y1.symm.trans w2.1)
          exact ⟨b12, y2, y3⟩
        · obtain rfl : K = 1 := (nI_eq (by omega) (by decide)).mp k1
          obtain ⟨b10, y1, b12, y2, y3⟩ := bk h _ (SB.refl _ _ _) rfl
          obtain rfl : b10 = mo + 2 := Option.some.inj (y1.symm.trans w2.1)
          exact ⟨b12, y2, y3⟩
        · rintro _ h' ⟨rfl, s', n'⟩
          obtain rfl : K = 0 := (nI_eq (by omega) (by decide)).mp k0
          exact ⟨by rw [s'.hK]; exact wh.1.1.1, bk h' _ s' rfl⟩
      · rw [show hI h (mo + 2) (Int32.toNatClampNeg 6) = nI r from (nh.at 6 (by decide)).trans I'.h6]
        exact nI_le (Nat.le_refl _) (by omega)
    | succ j ih =>
      intro r h hr sh nh eh
      have wh := w1.sb sh (by decide) (by decide) (by decide)
      have w2 := wh.1.1.row 2 2 312 (by decide)
      refine vX8_anew_53 ⟨wh.1.1.1, mo + 2, w2.1, w2.2.1, by rw [w2.2.2]; exact vp_in_nI (n := 6) (by decide) (by decide), fun e => absurd e ?_, fun _ => ⟨_, r_same wh.1.1 nh (c_of (k := 7) wh.1.1 (by omega) (by decide)), ?_⟩⟩
      · rw [show hI h (mo + 2) (Int32.toNatClampNeg 6) = nI nr from (nh.at 6 (by decide)).trans I'.h6]
        exact nI_ge (by omega) (by omega)
      · rintro _ h' ⟨rfl, s', n'⟩
        rw [nI_1]
        exact ih (r + 1) h' (by omega) (sh.trans (s'.mono (by decide))) n' (fun j hj => by rw [s'.rowE (by decide)]; exact eh j hj)
  exact loop nr 0 h23 (by omega) ((s9.mono (by decide)).trans (s23.mono (by decide))) n23 (fun j hj => by rw [s23.rowE (by decide)]; exact e9 j hj)
theorem p_homes {c k : Int32} (w : RX mo t ct rt g) (q : NR mo g f) (T : TD t ct rt nc nf nr) (hp : f 2 = 0 ∨ f 2 = 1 ∨ f 2 = 2) : CI l x mX8_homes 13 0 0 [.ref mo, .int c, .int k] g (fun v h' => PQ mo g f (aHomes f t ct rt nc nf nr c k) v h') := by
  have hC := T.c4
  have hF := T.f12
  have w1 : RX mo t ct rt (sI g mo 1 0) := w.sg s10
  have i2 : (¬ (if k < 0 then 0 else (if 1 < k then 0 else 1 : Int32) : Int32) = 0) ↔ inR k 2 := inR_k (n := 2) rfl (by decide)
  refine Cm.of (by decide) (Nat.le_of_ble_eq_true rfl) (vX8_homes_0 ⟨w.1.1.1, _, c_isCar w1.1 T.tk.2 T.c4, ?_⟩)
  rintro r5 _ ⟨i1, rfl⟩
  refine ⟨fun e => PQ.mkFail rfl w1.1.1 (SG.refl _ _) q.s1 (ite'_f fun z => i1.mpr z.1 e), fun e => ⟨_, c_isIn, ?_⟩⟩
  rintro _ _ ⟨rfl, rfl⟩
  refine ⟨fun e2 => ?_, fun e2 => PQ.mkFail rfl w1.1.1 (SG.refl _ _) q.s1 (ite'_f fun z => i2.mpr z.2 e2)⟩
  obtain ⟨C, hc, rfl⟩ := i1.mp e
  generalize hW : (fun n => wtdA (run t ct nc nf nr (up (up (anF t ct rt nc nr (f 2) (f 3)) (16 + 8 * C + 6) (nI n)) (16 + 8 * C) (nI n))) nr) = wt
  have ea : aHomes f t ct rt nc nf nr (nI C) k = .inl (if k = 0 then (hmA wt nf).1 else (hmA wt nf).2) := by
    refine (ite'_t ⟨⟨C, hc, rfl⟩, i2.mp e2⟩).trans ?_
    rw [nI_clamp (by omega), hW]
  have loop : ∀ (j n : Nat) (h : PH), n + j = nf → SB [2, 11, 12] mo (sI g mo 1 0) h → NR mo h f → Gm l x mX8_homes 13 36 [(0, .ref mo), (1, .int (nI C)), (2, .int k), (3, .int (hmA wt n).1), (4, .int (hmA wt n).2), (5, .int (nI n))] [] h 0 0 (hN g) (fun v h' => ∃ r, v = some (.int r) ∧ PQ mo g f (aHomes f t ct rt nc nf nr (nI C) k) r h') (fun _ _ => False) := by
    intro j
    induction j with
    | zero =>
      intro n h hn sh nh
      obtain rfl : n = nf := by omega
      have wh := w1.sb sh (by decide) (by decide) (by decide)
      have w4 := wh.1.1.row 4 4 7 (by decide)
      refine vX8_homes_36 ⟨wh.1.1.1, mo + 4, w4.1, w4.2.1, by rw [w4.2.2]; exact vp_in_nI (n := 0) (by decide) (by decide), fun _ => ⟨_, rfl, PQ.mkOk (sh.sg (by decide)) nh ea rfl (by rw [sh.fldE (by decide)]; exact gI _ _ _ _)⟩, fun e => absurd ?_ e⟩
      rw [show hI h (mo + 4) (Int32.toNatClampNeg 0) = nI n from (wh.1.2.1 0).trans T.tk.1.1]
      exact nI_le (Nat.le_refl _) (by omega)
    | succ j ih =>
      intro n h hn sh nh
      have wh := w1.sb sh (by decide) (by decide) (by decide)
      have w4 := wh.1.1.row 4 4 7 (by decide)
      have w2 := wh.1.1.row 2 2 312 (by decide)
      refine vX8_homes_36 ⟨wh.1.1.1, mo + 4, w4.1, w4.2.1, by rw [w4.2.2]; exact vp_in_nI (n := 0) (by decide) (by decide), fun e => absurd e ?_, fun _ => ⟨mo + 2, w2.1, w2.2.1, by rw [w2.2.2]; exact vp_in_nI (n := 2) (by decide) (by decide), by rw [w2.2.2]; exact vp_in_nI (n := 3) (by decide) (by decide), ?_⟩⟩
      · rw [show hI h (mo + 4) (Int32.toNatClampNeg 0) = nI nf from (wh.1.2.1 0).trans T.tk.1.1]
        exact nI_ge (by omega) (by omega)
      rw [show hI h (mo + 2) (Int32.toNatClampNeg 3) = f 3 from nh.at 3 (by decide), show hI h (mo + 2) (Int32.toNatClampNeg 2) = f 2 from nh.at 2 (by decide)]
      refine ⟨_, r_anewBegins wh nh T.tk.2 T.c4 T.t2 T.r20, ?_⟩
      rintro h9 ⟨s9, n9, e9⟩
      have w9 := wh.sb s9 (by decide) (by decide) (by decide)
      refine ⟨w9.1.1.1, _, r_putCar (k := 6) w9.1.1 n9 (by omega) (by decide), ?_⟩
      rintro h18 ⟨s18, n18⟩
      have w18 := w9.sb s18 (by decide) (by decide) (by decide)
      refine ⟨w18.1.1.1, _, r_putCar (k := 0) w18.1.1 n18 (by omega) (by decide), ?_⟩
      rintro h23 ⟨s23, n23⟩
      have w23 := w18.sb s23 (by decide) (by decide) (by decide)
      refine ⟨w23.1.1.1, _, r_anewWaited (f := f) w23 n23 T.tk (((Row_an T hp).hom hc (by omega)).flr hc (by omega)) (fun j hj => by rw [s23.rowE (by decide), s18.rowE (by decide)]; exact e9 j hj), ?_⟩
      rintro _ h22 ⟨rfl, s22, n22⟩
      have h1 := ih (n + 1) h22 (by omega) ((((sh.trans (s9.mono (by decide))).trans (s18.mono (by decide))).trans (s23.mono (by decide))).trans (s22.mono (by decide))) n22
      rw [← nI_1] at h1
      rw [show wtdA (ticksC t ct nr nf nc (up (up (anF t ct rt nc nr (f 2) (f 3)) (16 + 8 * C + 6) (nI n)) (16 + 8 * C + 0) (nI n)) 200) nr = wt n from congrFun hW n]
      rw [hmA] at h1
      by_cases e1 : (hmA wt n).2 = -1
      · rw [if_pos e1] at h1
        rw [if_pos e1, if_pos e1]
        exact h1
      · rw [if_neg e1] at h1
        rw [if_neg e1, if_neg e1]
        by_cases e3 : wt n < (hmA wt n).2
        · rw [if_pos e3] at h1
          rw [if_pos e3, if_pos e3]
          exact h1
        · rw [if_neg e3] at h1
          rw [if_neg e3, if_neg e3]
          exact h1
  exact loop nf 0 _ (by omega) (SB.refl _ _ _) q.s1
theorem p_later {r : Int32} (w : RX mo t ct rt g) (q : NR mo g f) (T : TD t ct rt nc nf nr) (hp : f 2 = 0 ∨ f 2 = 1 ∨ f 2 = 2) : CI l x mX8_later 13 0 0 [.ref mo, .int r] g (fun v h' => PQ mo g f (aLater f t ct rt nc nf nr r) v h') := by
  have h20 := T.r20
  have w1 : RX mo t ct rt (sI g mo 1 0) := w.sg s10
  have w4 := w.1.1.row 4 4 7 (by decide)
  refine Cm.of (by decide) (Nat.le_of_ble_eq_true rfl) (vX8_later_0 ⟨w.1.1.1, mo + 4, w4.1, w4.2.1, by rw [w4.2.2]; exact vp_in_nI (n := 2) (by decide) (by decide), ?_⟩)
  rw [show hI (sI g mo 1 0) (mo + 4) (Int32.toNatClampNeg 2) = nI nr from (w1.1.2.1 2).trans T.t2]
  refine ⟨_, c_isIn, ?_⟩
  rintro _ _ ⟨rfl, rfl⟩
  have i1 : (¬ (if r < 0 then 0 else (if nI nr - 1 < r then 0 else 1 : Int32) : Int32) = 0) ↔ inR r nr := inR_in (by omega)
  refine ⟨fun e => ?_, fun e => PQ.mkFail rfl w1.1.1 (SG.refl _ _) q.s1 (ite'_f fun z => i1.mpr z e)⟩
  obtain ⟨R, hR', rfl⟩ := i1.mp e
  obtain ⟨_, ⟨tm, htm, htm2⟩, _⟩ := T.ri R hR'
  generalize hE : (fun n => eaP t ct rt nc nf nr (f 2) (f 3) R (nI n)) = ee
  have ea : aLater f t ct rt nc nf nr (nI R) = .inl (if eaP t ct rt nc nf nr (f 2) (f 3) R 0 = -1 then 0 else ltA ee (eaP t ct rt nc nf nr (f 2) (f 3) R 0) (min 20 (99 - tm))) := by
    refine (ite'_t ⟨R, hR', rfl⟩).trans ?_
    rw [nI_clamp (by omega), hE, htm, nI_clamp (by omega)]
  refine ⟨w1.1.1.1, _, r_endsAnew w1 q.s1 T hp hR', ?_⟩
  rintro _ h14 ⟨rfl, s14, n14⟩
  have c14 : hI h14 mo 1 = 0 := by rw [s14.fldE (by decide)]; exact gI _ _ _ _
  refine ⟨fun e2 => ?_, fun e2 => ⟨_, rfl, PQ.mkOk (s14.sg (by decide)) n14 ea (by rw [if_pos e2]) c14⟩⟩
  have e48 : (4 : Int32) * nI R + 1 = nI (4 * R + 1) := by rw [n4, nI_1]
  have loop : ∀ (j n : Nat) (h : PH), n + j = 21 → 1 ≤ n → n ≤ min 20 (99 - tm) + 1 → SB [2, 11, 12] mo (sI g mo 1 0) h → NR mo h f → Gm l x mX8_later 13 46 [(0, .ref mo), (1, .int (nI R)), (2, .int (eaP t ct rt nc nf nr (f 2) (f 3) R 0)), (3, .int (ltA ee (eaP t ct rt nc nf nr (f 2) (f 3) R 0) (n - 1))), (4, .int (nI n))] [] h 0 0 (hN g) (fun v h' => ∃ r, v = some (.int r) ∧ PQ mo g f (aLater f t ct rt nc nf nr (nI R)) r h') (fun _ _ => False) := by
    intro j
    induction j with
    | zero =>
      intro n h hn h1 hm sh nh
      obtain rfl : n = 21 := by omega
      refine vX8_later_46 ⟨fun _ => ⟨_, rfl, PQ.mkOk (sh.sg (by decide)) nh ea ?_ (by rw [sh.fldE (by decide)]; exact gI _ _ _ _)⟩, fun e => absurd (by decide) e⟩
      rw [if_neg e2, show min 20 (99 - tm) = 21 - 1 by omega]
    | succ j ih =>
      intro n h hn h1 hm sh nh
      have wh := w1.sb sh (by decide) (by decide) (by decide)
      have w8 := wh.1.1.row 8 8 80 (by decide)
      refine vX8_later_46 ⟨fun e => absurd e (nI_nlt (a := 20) (b := n) (by omega) (by decide)), fun _ => ⟨wh.1.1.1, mo + 8, w8.1, w8.2.1, by rw [w8.2.2, e48]; exact vp_in_nI (by omega) (by decide), ?_⟩⟩
      rw [e48, nI_clamp (by omega), show hI h (mo + 8) (4 * R + 1) = nI tm from (wh.2 _).trans htm, nI_add]
      refine ⟨fun e3 => ⟨_, rfl, PQ.mkOk (sh.sg (by decide)) nh ea ?_ (by rw [sh.fldE (by decide)]; exact gI _ _ _ _)⟩, fun e3 => ⟨_, r_endsAnew wh nh T hp hR', ?_⟩⟩
      · have : 99 < tm + n := Nat.lt_of_not_le fun z => nI_nlt (a := 99) (b := tm + n) z (by decide) e3
        rw [if_neg e2, show min 20 (99 - tm) = n - 1 by omega]
      · have h99 : tm + n ≤ 99 := Nat.le_of_not_lt fun z => e3 (nI_lt (a := 99) z (by omega))
        rintro _ h10 ⟨rfl, s10', n10⟩
        intro y14 hy
        have h2 := ih (n + 1) h10 (by omega) (by omega) (by omega) (sh.trans s10') n10
        rw [← nI_1] at h2
        have ey : ltA ee (eaP t ct rt nc nf nr (f 2) (f 3) R 0) (n + 1 - 1) = y14 := by
          obtain ⟨n', rfl⟩ : ∃ n', n = n' + 1 := ⟨n - 1, by omega⟩
          rw [show n' + 1 + 1 - 1 = n' + 1 by omega, ltA, hy, show n' + 1 - 1 = n' by omega, show ee (n' + 1) = eaP t ct rt nc nf nr (f 2) (f 3) R (nI (n' + 1)) from (congrFun hE (n' + 1)).symm]
        rw [ey] at h2
        exact h2
  exact loop 20 1 h14 rfl (Nat.le_refl _) (by omega) s14 n14
end Pub3
