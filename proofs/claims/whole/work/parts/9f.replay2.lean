/-! THE CLASS: Replay, what is kept of runs -/
/-- nothing changed but in the cells from a to b -/
def FrX (a b : Nat) (h h' : PH) : Prop := h'.1 = h.1 ∧ h'.2.1 = h.2.1 ∧ h'.2.2.2.2.2 = h.2.2.2.2.2 ∧ ∀ c, (c < a ∨ b ≤ c) → ∀ k, hI h' c k = hI h c k ∧ hL h' c k = hL h c k ∧ hF h' c k = hF h c k
section FrX
variable {a b a' b' c o : Nat} {h h' h1 h2 h3 : PH}
theorem FrX.refl (a b : Nat) (h : PH) : FrX a b h h := ⟨rfl, rfl, rfl, fun _ _ _ => ⟨rfl, rfl, rfl⟩⟩
theorem FrX.trans (p : FrX a b h1 h2) (q : FrX a b h2 h3) : FrX a b h1 h3 := ⟨q.1.trans p.1, q.2.1.trans p.2.1, q.2.2.1.trans p.2.2.1, fun c hc k => ⟨(q.2.2.2 c hc k).1.trans (p.2.2.2 c hc k).1, (q.2.2.2 c hc k).2.1.trans (p.2.2.2 c hc k).2.1, (q.2.2.2 c hc k).2.2.trans (p.2.2.2 c hc k).2.2⟩⟩
theorem FrX.mono (p : FrX a b h h') (h1 : a' ≤ a) (h2 : b ≤ b') : FrX a' b' h h' := ⟨p.1, p.2.1, p.2.2.1, fun c hc k => p.2.2.2 c (by omega) k⟩
theorem FrB.frx (p : FrB o h h') (h1 : a ≤ o) (h2 : o + 32 ≤ b) : FrX a b h h' := ⟨p.1, p.2.1, p.2.2.1, fun c hc k => p.2.2.2 c (by omega) k⟩
theorem Fr1.frx (p : Fr1 o h h') (h1 : a ≤ o) (h2 : o < b) : FrX a b h h' := ⟨p.1, p.2.1, p.2.2.1, fun c hc k => p.2.2.2 c (by omega) k⟩
theorem FrX.hK (p : FrX a b h h') (c : Nat) : hK h' c = hK h c := congrFun p.2.1 c
theorem FrX.hR (p : FrX a b h h') (c k : Nat) : hR h' c k = hR h c k := congrFun (congrFun p.2.2.1 c) k
theorem FrX.hN (p : FrX a b h h') : hN h' = hN h := p.1
theorem FrX.ac (p : FrX a b h h') (hc : c < a ∨ b ≤ c) : Ac c h h' := ⟨p.hK c, fun k => ⟨(p.2.2.2 c hc k).1, (p.2.2.2 c hc k).2.1, (p.2.2.2 c hc k).2.2, p.hR c k⟩⟩
theorem BS.frx (q : BS h o) (p : FrX a b h h') : BS h' o := by
  unfold BS at q ⊢
  simp only [p.hK, p.hR]
  exact q
theorem PS.frx {rp : Nat} (q : PS h rp) (p : FrX a b h h') : PS h' rp := by
  unfold PS at q ⊢
  simp only [p.hK, p.hR]
  exact q
end FrX
section Replay2
variable {l : Launch} {x : CX} {h h' : PH} {o rp nc nf nr m c : Nat} {f t ct rt : Nat → Int32}
theorem e12 (p y : Nat) : (12 : Int32) * nI p + nI y = nI (12 * p + y) := by
  show nI 12 * nI p + nI y = _
  rw [nI_mul, nI_add]
theorem e20 (p y : Nat) : (20 : Int32) * nI p + nI y = nI (20 * p + y) := by
  show nI 20 * nI p + nI y = _
  rw [nI_mul, nI_add]
/-- what run promises -/
def RQ (h : PH) (rp : Nat) (t ct rt : Nat → Int32) (nc nf nr k : Nat) (h' : PH) : Prop := FrX (rp + 33) (rp + 72) h h' ∧ RP h' rp t ct rt nc nf nr ∧ MV h' rp nc nr (rnF t ct rt nc nf nr k) k ∧ ¬ hI h' (rp + 65) k = 0 ∧ ∀ j, j < 36 → ¬ hI h (rp + 65) j = 0 → ¬ hI h' (rp + 65) j = 0
/-- a kept run stays when another is kept beside it -/
theorem MV.keep {F : Nat → Int32} {j k : Nat} (q : MV h rp nc nr F j) (hj : j ≠ k) (h20 : nr ≤ 20) (a1 : ∀ i, i ≠ k → hI h' (rp + 66) i = hI h (rp + 66) i) (a2 : ∀ i, i ≠ k → hI h' (rp + 67) i = hI h (rp + 67) i) (a3 : ∀ i, i ≠ k → hI h' (rp + 68) i = hI h (rp + 68) i) (a4 : ∀ i, i ≠ k → hI h' (rp + 69) i = hI h (rp + 69) i) (a5 : ∀ i, i ≠ k → hF h' (rp + 70) i = hF h (rp + 70) i) (a6 : ∀ i, (i < 20 * k ∨ 20 * k + 20 ≤ i) → hI h' (rp + 71) i = hI h (rp + 71) i) : MV h' rp nc nr F j := by
  unfold MV at q ⊢
  rw [a1 j hj, a2 j hj, a3 j hj, a4 j hj, a5 j hj]
  refine ⟨q.1, q.2.1, q.2.2.1, q.2.2.2.1, q.2.2.2.2.1, fun r hr => ?_⟩
  rw [a6 _ (by omega)]
  exact q.2.2.2.2.2 r hr
theorem BR.out {a : Nat} (q : BR h o t ct nc nf nr f) (hC : nc ≤ 4) (h24 : nr ≤ 24) (p : Fr1 a h h') (ha : a < o ∨ o + 32 ≤ a) : BR h' o t ct nc nf nr f := q.ac hC h24 (q.s.fr p) (fun b h1 h2 _ => p.ac (by omega))
theorem BR.frx {a b : Nat} (q : BR h o t ct nc nf nr f) (hC : nc ≤ 4) (h24 : nr ≤ 24) (p : FrX a b h h') (ha : b ≤ o ∨ o + 32 ≤ a) : BR h' o t ct nc nf nr f := q.ac hC h24 (q.s.frx p) (fun b h1 h2 _ => p.ac (by omega))
theorem k_run {p y : Nat} (O : XN x) (R : RP h rp t ct rt nc nf nr) (T : TD t ct rt nc nf nr) (hp : p < 3) (hy : y < 12) : CI l x mX5_run 5 0 0 [.ref rp, .int (nI p), .int (nI y)] h (fun v h' => v = nI (12 * p + y) ∧ RQ h rp t ct rt nc nf nr (12 * p + y) h') := by
  have hC := T.c4
  have h20 := T.r20
  have hk : 12 * p + y < 36 := by omega
  have ek : rnF t ct rt nc nf nr (12 * p + y) = run t ct nc nf nr (anF t ct rt nc nr (nI p) (nI y)) := by
    unfold rnF
    rw [show (12 * p + y) / 12 = p by omega, show (12 * p + y) % 12 = y by omega]
  refine Cm.of (by decide) (Nat.le_of_ble_eq_true rfl) (vX5_run_0 ?_)
  rw [e12, nI_clamp (by omega)]
  generalize 12 * p + y = k at hk ek ⊢
  have vi : ∀ {n : Nat × Nat}, n.2 = 36 → vp_in (nI k) n.2 := fun e => by rw [e]; exact vp_in_nI (by omega) (by decide)
  have P := R.1
  refine ⟨P.1, rp + 65, P.2.2.2.1, by rw [P.2.2.2.2.1], vi (by rw [P.2.2.2.2.1]), fun e => ⟨_, k_prepare R T, ?_⟩, fun e => ⟨_, rfl, rfl, FrX.refl _ _ _, R, R.2.2.2 k hk e, e, fun _ _ z => z⟩⟩
  rintro h9 ⟨p9, B9⟩
  have P9 := P.frb p9
  refine ⟨P9.1, rp + 33, P9.2.2.1, B9.s.k, _, k_passR O T B9 (Row_an T (p012 p hp)), ?_⟩
  rintro h16 ⟨p16, B16⟩
  rw [← ek] at B16
  have W16 : ∀ c, c < nc → Fok (rnF t ct rt nc nf nr k (16 + 8 * c + 5)).toUInt32 := by rw [ek]; exact ((Row_an T (p012 p hp)).ticks T.tk.1 200).wk
  have R16 := (R.frb hC (by omega) p9).frb hC (by omega) p16
  have q16 := p9.trans p16
  generalize eF : rnF t ct rt nc nf nr k = F at *
  have P16 := R16.1
  -- the cells, one after another
  have f1 : Fr1 (rp + 65) h16 (sI h16 (rp + 65) k (vp_nar .boolean 1)) := (Fr1.refl _ _).sI _ _
  have B1 := B16.out hC (by omega) f1 (Or.inr (by omega))
  refine ⟨P16.1, rp + 65, P16.2.2.2.1, by rw [P16.2.2.2.2.1], vi (by rw [P16.2.2.2.2.1]), rp + 66, P16.2.2.2.2.2.1, rp + 33, P16.2.2.1, B16.s.k, _, k_waitedInAll B1.po' (by omega), ?_⟩
  rintro _ _ ⟨rfl, rfl⟩
  have P1 := P16.frx (f1.frx (a := rp + 65) (b := rp + 66) (by omega) (by omega))
  refine ⟨by rw [P1.2.2.2.2.2.2.1], vi (by rw [P1.2.2.2.2.2.2.1]), P1.1, rp + 67, P1.2.2.2.2.2.2.2.1, rp + 33, P1.2.2.1, B1.s.k, by rw [P1.2.2.2.2.2.2.2.2.1], vi (by rw [P1.2.2.2.2.2.2.2.2.1]), rp + 68, P1.2.2.2.2.2.2.2.2.2.1, ?_⟩
  generalize hg1 : sI h16 (rp + 65) k (vp_nar .boolean 1) = g1 at *
  have f2 : Fr1 (rp + 66) g1 (sI g1 (rp + 66) k (wtdA F nr)) := (Fr1.refl _ _).sI _ _
  have B2 := B1.out hC (by omega) f2 (Or.inr (by omega))
  generalize hg2 : sI g1 (rp + 66) k (wtdA F nr) = g2 at *
  rw [B2.fi, ← mny_cnt]
  have f3 : Fr1 (rp + 67) g2 (sI g2 (rp + 67) k (mnyA F 3 nr)) := (Fr1.refl _ _).sI _ _
  have B3 := B2.out hC (by omega) f3 (Or.inr (by omega))
  generalize hg3 : sI g2 (rp + 67) k (mnyA F 3 nr) = g3 at *
  refine ⟨_, k_latestDone B3.po' (by omega), ?_⟩
  rintro _ z3 ⟨rfl, z⟩
  rw [z]
  clear z z3
  have P3 := (P1.frx (f2.frx (a := rp + 65) (b := rp + 72) (by omega) (by omega))).frx (f3.frx (a := rp + 65) (b := rp + 72) (by omega) (by omega))
  have f4 : Fr1 (rp + 68) g3 (sI g3 (rp + 68) k (latA F nr)) := (Fr1.refl _ _).sI _ _
  have B4 := B3.out hC (by omega) f4 (Or.inr (by omega))
  refine ⟨by rw [P3.2.2.2.2.2.2.2.2.2.2.1], vi (by rw [P3.2.2.2.2.2.2.2.2.2.2.1]), P3.1, rp + 69, P3.2.2.2.2.2.2.2.2.2.2.2.1, rp + 33, P3.2.2.1, B3.s.k, _, k_passedInAll B4 hC, ?_⟩
  generalize hg4 : sI g3 (rp + 68) k (latA F nr) = g4 at *
  rintro _ z3 ⟨rfl, z⟩
  rw [z]
  clear z z3
  have P4 := P3.frx (f4.frx (a := rp + 65) (b := rp + 72) (by omega) (by omega))
  have f5 : Fr1 (rp + 69) g4 (sI g4 (rp + 69) k (F 5)) := (Fr1.refl _ _).sI _ _
  have B5 := B4.out hC (by omega) f5 (Or.inr (by omega))
  refine ⟨by rw [P4.2.2.2.2.2.2.2.2.2.2.2.2.1], vi (by rw [P4.2.2.2.2.2.2.2.2.2.2.2.2.1]), P4.1, rp + 70, P4.2.2.2.2.2.2.2.2.2.2.2.2.2.1, rp + 33, P4.2.2.1, B4.s.k, _, k_workInAll B5 hC W16, ?_⟩
  generalize hg5 : sI g4 (rp + 69) k (F 5) = g5 at *
  rintro _ z3 ⟨rfl, z⟩
  rw [z]
  clear z z3
  have P5 := P4.frx (f5.frx (a := rp + 65) (b := rp + 72) (by omega) (by omega))
  have f6 : Fr1 (rp + 70) g5 (sF g5 (rp + 70) k (wrkA F nc)) := (Fr1.refl _ _).sF _ _
  have B6 := B5.out hC (by omega) f6 (Or.inr (by omega))
  refine ⟨by rw [P5.2.2.2.2.2.2.2.2.2.2.2.2.2.2.1], vi (by rw [P5.2.2.2.2.2.2.2.2.2.2.2.2.2.2.1]), ?_⟩
  generalize hg6 : sF g5 (rp + 70) k (wrkA F nc) = g6 at *
  have P6 := P5.frx (f6.frx (a := rp + 65) (b := rp + 72) (by omega) (by omega))
  have q6 : FrX (rp + 65) (rp + 71) h16 g6 := (((((f1.frx (by omega) (by omega)).trans (f2.frx (by omega) (by omega))).trans (f3.frx (by omega) (by omega))).trans (f4.frx (by omega) (by omega))).trans (f5.frx (by omega) (by omega))).trans (f6.frx (by omega) (by omega))
  have w65 : ∀ i, hI g6 (rp + 65) i = if i = k then 1 else hI h16 (rp + 65) i := fun i => by
    rw [f6.hI (by omega), f5.hI (by omega), f4.hI (by omega), f3.hI (by omega), f2.hI (by omega), ← hg1, hI_sI]
    by_cases e : i = k
    · rw [if_pos e, if_pos ⟨e, rfl⟩]; rfl
    · rw [if_neg e, if_neg fun z => e z.1]
  have w66 : ∀ i, hI g6 (rp + 66) i = if i = k then wtdA F nr else hI h16 (rp + 66) i := fun i => by
    rw [f6.hI (by omega), f5.hI (by omega), f4.hI (by omega), f3.hI (by omega), ← hg2, hI_sI, f1.hI (by omega)]
    by_cases e : i = k
    · rw [if_pos e, if_pos ⟨e, rfl⟩]
    · rw [if_neg e, if_neg fun z => e z.1]
  have w67 : ∀ i, hI g6 (rp + 67) i = if i = k then mnyA F 3 nr else hI h16 (rp + 67) i := fun i => by
    rw [f6.hI (by omega), f5.hI (by omega), f4.hI (by omega), ← hg3, hI_sI, f2.hI (by omega), f1.hI (by omega)]
    by_cases e : i = k
    · rw [if_pos e, if_pos ⟨e, rfl⟩]
    · rw [if_neg e, if_neg fun z => e z.1]
  have w68 : ∀ i, hI g6 (rp + 68) i = if i = k then latA F nr else hI h16 (rp + 68) i := fun i => by
    rw [f6.hI (by omega), f5.hI (by omega), ← hg4, hI_sI, f3.hI (by omega), f2.hI (by omega), f1.hI (by omega)]
    by_cases e : i = k
    · rw [if_pos e, if_pos ⟨e, rfl⟩]
    · rw [if_neg e, if_neg fun z => e z.1]
  have w69 : ∀ i, hI g6 (rp + 69) i = if i = k then F 5 else hI h16 (rp + 69) i := fun i => by
    rw [f6.hI (by omega), ← hg5, hI_sI, f4.hI (by omega), f3.hI (by omega), f2.hI (by omega), f1.hI (by omega)]
    by_cases e : i = k
    · rw [if_pos e, if_pos ⟨e, rfl⟩]
    · rw [if_neg e, if_neg fun z => e z.1]
  have w70 : ∀ i, hF g6 (rp + 70) i = if i = k then wrkA F nc else hF h16 (rp + 70) i := fun i => by
    rw [← hg6, hF_sF, f5.hF (by omega), f4.hF (by omega), f3.hF (by omega), f2.hF (by omega), f1.hF (by omega)]
    by_cases e : i = k
    · rw [if_pos e, if_pos ⟨e, rfl⟩]
    · rw [if_neg e, if_neg fun z => e z.1]
  clear hg1 hg2 hg3 hg4 hg5 hg6 B1 B2 B3 B4 B5 P1 P3 P4 P5
  have loop : ∀ (j r : Nat) (g : PH), r + j = nr → FrX (rp + 71) (rp + 72) g6 g → (∀ r', r' < r → hI g (rp + 71) (20 * k + r') = F (48 + 9 * r' + 7)) → (∀ i, (i < 20 * k ∨ 20 * k + 20 ≤ i) → hI g (rp + 71) i = hI g6 (rp + 71) i) → Gm l x mX5_run 5 109 [(0, .ref rp), (1, .int (nI p)), (2, .int (nI y)), (3, .int (nI k)), (4, .int (nI r))] [] g 0 0 (hN h) (fun v h' => ∃ z, v = some (.int z) ∧ z = nI k ∧ RQ h rp t ct rt nc nf nr k h') (fun _ _ => False) := by
    intro j
    induction j with
    | zero =>
      intro r g hr pg v1 v2
      obtain rfl : r = nr := by omega
      have Pg := P6.frx pg
      have Bg := B6.frx hC (by omega) pg (Or.inr (by omega))
      refine vX5_run_109 ⟨Pg.1, rp + 33, Pg.2.2.1, Bg.s.k, fun _ => ⟨_, rfl, rfl, ?_⟩, fun e => absurd ?_ e⟩
      · have m65 : ∀ i, hI g (rp + 65) i = if i = k then 1 else hI h16 (rp + 65) i := fun i => by rw [(pg.ac (by omega)).hI]; exact w65 i
        have m66 : ∀ i, hI g (rp + 66) i = if i = k then wtdA F r else hI h16 (rp + 66) i := fun i => by rw [(pg.ac (by omega)).hI]; exact w66 i
        have m67 : ∀ i, hI g (rp + 67) i = if i = k then mnyA F 3 r else hI h16 (rp + 67) i := fun i => by rw [(pg.ac (by omega)).hI]; exact w67 i
        have m68 : ∀ i, hI g (rp + 68) i = if i = k then latA F r else hI h16 (rp + 68) i := fun i => by rw [(pg.ac (by omega)).hI]; exact w68 i
        have m69 : ∀ i, hI g (rp + 69) i = if i = k then F 5 else hI h16 (rp + 69) i := fun i => by rw [(pg.ac (by omega)).hI]; exact w69 i
        have m70 : ∀ i, hF g (rp + 70) i = if i = k then wrkA F nc else hF h16 (rp + 70) i := fun i => by rw [((pg.ac (c := rp + 70) (by omega)).2 i).2.2.1]; exact w70 i
        have mk : MV g rp nc r (rnF t ct rt nc nf r k) k := by
          rw [eF]
          exact ⟨(m66 k).trans (if_pos rfl), (m67 k).trans (if_pos rfl), (m68 k).trans (if_pos rfl), (m69 k).trans (if_pos rfl), (m70 k).trans (if_pos rfl), v1⟩
        have qg : FrX (rp + 65) (rp + 72) h16 g := (q6.mono (by omega) (by omega)).trans (pg.mono (by omega) (by omega))
        refine ⟨(q16.frx (by omega) (by omega)).trans (qg.mono (by omega) (by omega)), ⟨Pg, R16.2.1.frx hC (by omega) qg (Or.inr (by omega)), Bg.s, fun i hi e => ?_⟩, mk, ?_, fun i hi e => ?_⟩
        · by_cases ei : i = k
          · subst ei
            exact mk
          · rw [m65, if_neg ei] at e
            refine (R16.2.2.2 i hi e).keep (k := k) ei h20 (fun a ha => (m66 a).trans (if_neg ha)) (fun a ha => (m67 a).trans (if_neg ha)) (fun a ha => (m68 a).trans (if_neg ha)) (fun a ha => (m69 a).trans (if_neg ha)) (fun a ha => (m70 a).trans (if_neg ha)) (fun a ha => ?_)
            rw [v2 a ha, (q6.ac (by omega)).hI]
        · rw [m65, if_pos rfl]
          decide
        · rw [m65]
          by_cases ei : i = k
          · rw [if_pos ei]; decide
          · rw [if_neg ei, (q16.ac (b := rp + 65) (by omega)).hI]; exact e
      · rw [Bg.nr]
        exact nI_le (Nat.le_refl _) (by omega)
    | succ j ih =>
      intro r g hr pg v1 v2
      have Pg := P6.frx pg
      have Bg := B6.frx hC (by omega) pg (Or.inr (by omega))
      refine vX5_run_109 ⟨Pg.1, rp + 33, Pg.2.2.1, Bg.s.k, fun e => absurd e ?_, fun _ => ⟨fun e => absurd e (nI_ge (b := 20) (by omega) (by decide)), fun _ => ⟨rp + 71, Pg.2.2.2.2.2.2.2.2.2.2.2.2.2.2.2.1, rp + 33 + 2, Bg.s.p, by rw [Bg.s.pk], by rw [Bg.s.pk]; exact vp_in_nI (by omega) (by decide), rp + 33 + 8 + r, by rw [nI_clamp (by omega)]; exact (Bg.s.pr r (by omega)).1, (Bg.s.pr r (by omega)).2, by rw [Pg.2.2.2.2.2.2.2.2.2.2.2.2.2.2.2.2], ?_, ?_⟩⟩⟩
      · rw [Bg.nr]
        exact nI_ge (by omega) (by omega)
      · rw [Pg.2.2.2.2.2.2.2.2.2.2.2.2.2.2.2.2, e20]
        exact vp_in_nI (by omega) (by decide)
      · rw [e20, nI_clamp (by omega), nI_1, (Bg.ri r (by omega)).en]
        refine ih (r + 1) _ (by omega) (pg.trans (((Fr1.refl _ _).sI _ _).frx (by omega) (by omega))) (fun r' hr' => ?_) (fun i hi => ?_)
        · rw [hI_sI]
          by_cases er : r' = r
          · subst er
            exact if_pos ⟨rfl, rfl⟩
          · rw [if_neg fun z => er (by omega)]
            exact v1 r' (by omega)
        · rw [hI_sI, if_neg fun z => by omega]
          exact v2 i hi
  exact loop nr 0 g6 (by omega) (FrX.refl _ _ _) (fun r' hr' => absurd hr' (Nat.not_lt_zero _)) (fun _ _ => rfl)
theorem RP.s (R : RP h rp t ct rt nc nf nr) : PS h rp := R.1
theorem k_doneTime {k r : Nat} (P : PS h rp) (hk : k < 36) (hr : r < 20) : CI l x mX5_doneTime 0 0 0 [.ref rp, .int (nI k), .int (nI r)] h (fun v h' => v = hI h (rp + 71) (20 * k + r) ∧ h' = h) := by
  refine Cm.of (by decide) (Nat.le_of_ble_eq_true rfl) (vX5_doneTime_0 ?_)
  rw [e20, nI_clamp (by omega)]
  exact ⟨P.1, rp + 71, P.2.2.2.2.2.2.2.2.2.2.2.2.2.2.2.1, by rw [P.2.2.2.2.2.2.2.2.2.2.2.2.2.2.2.2], by rw [P.2.2.2.2.2.2.2.2.2.2.2.2.2.2.2.2]; exact vp_in_nI (by omega) (by decide), _, rfl, rfl, rfl⟩
theorem bL_bit (v : Int64) (k : Nat) (hk : k < 64) : ¬ lg_cmp ((lus v (nI k)) &&& 1) 0 = 0 ↔ bL v k = true := by
  rw [lg0, bL_nz]
  constructor
  · rintro ⟨i, h1, h2⟩
    rw [bL_and, bL_ushr k hk, bL_c1 i h1] at h2
    simp only [Bool.and_eq_true, decide_eq_true_eq] at h2
    obtain ⟨h3, rfl⟩ := h2
    exact h3
  · intro e
    refine ⟨0, by omega, ?_⟩
    rw [bL_and, bL_ushr k hk, Nat.add_zero, e]
    rfl
theorem k_unlike {v : Int64} {r : Nat} (P : PS h rp) (hr : r < 20) : CI l x mX5_unlike 1 0 0 [.ref rp, .int (nI r), .long v] h (fun w h' => w = nI (fb_ct (ulB (bL v) (fun j => hI h (rp + 71) (20 * j + r))) 36) ∧ h' = h) := by
  have loop : ∀ (j k : Nat), k + j = 36 → Gm l x mX5_unlike 1 6 [(0, .ref rp), (1, .int (nI r)), (2, .long v), (4, .int (nI (fb_ct (ulB (bL v) (fun j => hI h (rp + 71) (20 * j + r))) k))), (5, .int (nI k))] [] h 0 0 (hN h) (fun w h' => ∃ z, w = some (.int z) ∧ z = nI (fb_ct (ulB (bL v) (fun j => hI h (rp + 71) (20 * j + r))) 36) ∧ h' = h) (fun _ _ => False) := by
    intro j
    induction j with
    | zero =>
      intro k hk
      obtain rfl : k = 36 := by omega
      exact vX5_unlike_6 ⟨P.1, rp + 65, P.2.2.2.1, by rw [P.2.2.2.2.1], fun _ => ⟨_, rfl, rfl, rfl⟩, fun e => absurd (by rw [P.2.2.2.2.1]; decide) e⟩
    | succ j ih =>
      intro k hk
      refine vX5_unlike_6 ⟨P.1, rp + 65, P.2.2.2.1, by rw [P.2.2.2.2.1], fun e => absurd e (by rw [P.2.2.2.2.1]; exact nI_ge (b := 36) (by omega) (by decide)), fun _ y7 e7 => ?_⟩
      have h7 : ¬ y7 = 0 ↔ bL v k = true := by
        rw [← bL_bit v k (by omega), e7]
        split
        · rename_i z
          exact ⟨fun q => absurd rfl q, fun q => absurd z q⟩
        · rename_i z
          exact ⟨fun _ => z, fun _ => by decide⟩
      clear e7
      have fin : ∀ (x6 : Int32), (¬ x6 = 0 ↔ ulB (bL v) (fun j => hI h (rp + 71) (20 * j + r)) k = true) → Gm l x mX5_unlike 1 6 [(0, .ref rp), (1, .int (nI r)), (2, .long v), (4, .int (if x6 = 0 then nI (fb_ct (ulB (bL v) (fun j => hI h (rp + 71) (20 * j + r))) k) else nI (fb_ct (ulB (bL v) (fun j => hI h (rp + 71) (20 * j + r))) k) + 1)), (5, .int (nI k + 1))] [] h 0 0 (hN h) (fun w h' => ∃ z, w = some (.int z) ∧ z = nI (fb_ct (ulB (bL v) (fun j => hI h (rp + 71) (20 * j + r))) 36) ∧ h' = h) (fun _ _ => False) := by
        intro x6 hx
        have h1 := ih (k + 1) (by omega)
        rw [fb_ct_succ, ← nI_1 k] at h1
        by_cases e : x6 = 0
        · rw [if_neg fun z => hx.mpr z e] at h1
          rw [if_pos e]
          exact h1
        · rw [if_pos (hx.mp e), ← nI_1] at h1
          rw [if_neg e]
          exact h1
      have inner : ∀ (i b : Nat) (x6 : Int32), b + i = k → (¬ x6 = 0 ↔ (bL v k = true ∧ ∀ b', b' < b → bL v b' = true → ¬ hI h (rp + 71) (20 * b' + r) = hI h (rp + 71) (20 * k + r))) → Gm l x mX5_unlike 1 37 [(0, .ref rp), (1, .int (nI r)), (2, .long v), (4, .int (nI (fb_ct (ulB (bL v) (fun j => hI h (rp + 71) (20 * j + r))) k))), (5, .int (nI k)), (6, .int x6), (7, .int (nI b))] [] h 0 0 (hN h) (fun w h' => ∃ z, w = some (.int z) ∧ z = nI (fb_ct (ulB (bL v) (fun j => hI h (rp + 71) (20 * j + r))) 36) ∧ h' = h) (fun _ _ => False) := by
        intro i
        induction i with
        | zero =>
          intro b x6 hb hx
          obtain rfl : b = k := by omega
          refine vX5_unlike_37 ⟨fun _ => fin x6 ?_, fun z => absurd (nI_le (Nat.le_refl _) (by omega)) z⟩
          rw [hx]
          unfold ulB
          rw [Bool.and_eq_true, decide_eq_true_eq]
        | succ i ih2 =>
          intro b x6 hb hx
          refine vX5_unlike_37 ⟨fun z => absurd z (nI_ge (by omega) (by omega)), fun _ => ⟨fun z => fin x6 ?_, fun z y6 e6 => ?_⟩⟩
          · refine ⟨fun q => absurd z q, fun q => hx.mpr ?_⟩
            unfold ulB at q
            rw [Bool.and_eq_true, decide_eq_true_eq] at q
            exact ⟨q.1, fun b' hb' => q.2 b' (by omega)⟩
          have h6 : ¬ y6 = 0 ↔ bL v b = true := by
            rw [← bL_bit v b (by omega), e6]
            split
            · rename_i z
              exact ⟨fun q => absurd rfl q, fun q => absurd z q⟩
            · rename_i z
              exact ⟨fun _ => z, fun _ => by decide⟩
          clear e6
          obtain ⟨x1, x2⟩ := hx.mp z
          refine ⟨fun e => ?_, fun e => ⟨P.1, _, k_doneTime P (by omega) hr, ?_⟩⟩
          · rw [nI_1]
            refine ih2 (b + 1) 1 (by omega) ⟨fun _ => ⟨x1, fun b' hb' q => ?_⟩, fun _ => by decide⟩
            by_cases eb : b' = b
            · subst eb
              exact absurd e (h6.mpr q)
            · exact x2 b' (by omega) q
          rintro _ z3 ⟨rfl, z4⟩
          rw [z4]
          refine ⟨P.1, _, k_doneTime P (by omega) hr, ?_⟩
          rintro _ z5 ⟨rfl, z6⟩
          rw [z6]
          rw [nI_1]
          refine ih2 (b + 1) _ (by omega) ?_
          by_cases eq : hI h (rp + 71) (20 * b + r) = hI h (rp + 71) (20 * k + r)
          · rw [if_pos eq]
            exact ⟨fun q => absurd rfl q, fun q => absurd eq (q.2 b (by omega) (h6.mp e))⟩
          · rw [if_neg eq]
            refine ⟨fun _ => ⟨x1, fun b' hb' q => ?_⟩, fun _ => by decide⟩
            by_cases eb : b' = b
            · subst eb
              exact eq
            · exact x2 b' (by omega) q
      exact inner k 0 y7 (by omega) ⟨fun q => ⟨h7.mp q, fun b' hb' => absurd hb' (Nat.not_lt_zero _)⟩, fun q => h7.mpr q.1⟩
  exact Cm.of (by decide) (Nat.le_of_ble_eq_true rfl) (vX5_unlike_0 (loop 36 0 rfl))
end Replay2
