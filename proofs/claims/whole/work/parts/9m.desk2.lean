/-! THE CLASS: Desk, copyFrom -/
section Desk2
variable {l : Launch} {x : CX} {h h' g : PH} {d d' o T T' nc nf nr m c n r i fi : Nat} {f t ct rt : Nat → Int32} {ow ow' : Nat → Nat} {S : Nat → Prop} {D D' : DT}
theorem DS.mid (q : DS h d) (A : ∀ b, d ≤ b → b < d + 38 → b ≠ d + 33 → b ≠ d + 34 → Ac b h h') (P : AS h' (d + 33)) (hn : hN h ≤ hN h') : DS h' d := by
  obtain ⟨q1, q2, q3, q4, q5, q6, q7, q8, q9, q10, q11, q12⟩ := q
  have A0 := A d (by omega) (by omega) (by omega) (by omega)
  exact ⟨by rw [A0.1]; exact q1, by rw [A0.hR]; exact q2, by rw [A0.hR]; exact q3, by rw [A0.hR]; exact q4, by rw [(A (d + 35) (by omega) (by omega) (by omega) (by omega)).1]; exact q5, by rw [A0.hR]; exact q6, by rw [(A (d + 36) (by omega) (by omega) (by omega) (by omega)).1]; exact q7, by rw [A0.hR]; exact q8, by rw [(A (d + 37) (by omega) (by omega) (by omega) (by omega)).1]; exact q9, P, q11.ac fun b h1 h2 => A b (by omega) (by omega) (by omega) (by omega), by omega⟩
/-- a desk's cells but its acts lie in no row's Bank -/
theorem off_cells (P : DS h d) (to : ∀ i, i < 40 → ow (d + 1) ≠ T + i) : ∀ b, d ≤ b → b < d + 38 → ∀ r j, j < 40 → ow r = T + j → BS h r → b < r ∨ r + 32 ≤ b := by
  intro b h1 h2 r j hj er s
  by_cases e : d + 1 ≤ b ∧ b < d + 33
  · have ne : d + 1 ≠ r := fun z => to j hj (by rw [z]; exact er)
    have := BS_sep P.b s ne
    omega
  · have k : (hK h b).1 = 3 ∨ (hK h b).1 = 0 ∨ (hK h b).1 = 107 ∨ (hK h b).1 = 100 := by
      rcases (show b = d ∨ b = d + 33 ∨ b = d + 33 + 1 ∨ b = d + 35 ∨ b = d + 36 ∨ b = d + 37 by omega) with rfl | rfl | rfl | rfl | rfl | rfl
      · exact Or.inl P.1
      · exact Or.inr (Or.inl P.a.1)
      · exact Or.inr (Or.inr (Or.inl (by rw [P.a.2.2.1])))
      · exact Or.inr (Or.inr (Or.inr (by rw [P.2.2.2.2.1])))
      · exact Or.inr (Or.inr (Or.inr (by rw [P.2.2.2.2.2.2.1])))
      · exact Or.inr (Or.inr (Or.inr (by rw [P.2.2.2.2.2.2.2.2.1])))
    refine BS_out s ?_ ?_ ?_ ?_ ?_ <;> (rcases k with k | k | k | k <;> rw [k] <;> decide)
theorem cpC_eq {a : Nat} (e : ∀ j, hR h' (a + 1) j = hR h (a + 1) j) : cpC h' a fi n = cpC h a fi n := by
  unfold cpC
  exact congrArg (fun p => fb_ct p n) (funext fun j => by rw [e])
theorem BS.bk {a b : Nat} (q : BS h' o) (p : FrX a b h h') : BS h o := by
  unfold BS at q ⊢
  simp only [p.hK, p.hR] at q
  exact q
theorem k_copyDesk (O : XN x) (P : DS h d) (Q : AO h (d + 33) ow T) (to : ∀ i, i < 40 → ow (d + 1) ≠ T + i) (V : DV h d' ow T' t ct nc nf fi D) (W : DW ct nc nf D) (hd : d + 38 ≤ d' ∨ d' + 38 ≤ d) (hT : T + 40 ≤ T' ∨ T' + 40 ≤ T) (to1 : ∀ i, i < 40 → ow (d + 1) ≠ T' + i) (to2 : ∀ i, i < 40 → ow (d' + 1) ≠ T + i) : CV l x mX3_copyFrom 5 (32 * cpC h (d + 33) fi D.2.1.1) (359 * cpC h (d + 33) fi D.2.1.1) [.ref d, .ref d'] h (fun h' => ∃ ow', (∀ b, b + 32 ≤ hN h → ow' b = ow b) ∧ DV h' d ow' T t ct nc nf fi D ∧ FrS (fun b => (d ≤ b ∧ b < d + 38) ∨ SA h (d + 33) ow T b) h h' ∧ nul h' (d + 33) + cpC h (d + 33) fi D.2.1.1 = nul h (d + 33)) := by
  obtain ⟨v1, v2, v3, v4, v5, v6⟩ := V
  obtain ⟨w1, w2, w3, w4⟩ := W
  have dn := P.nx
  have dn' := v1.nx
  obtain ⟨⟨m, I⟩, G, _⟩ := id w2
  refine Cm.of (by decide) (Nat.le_of_ble_eq_true rfl) (vX3_copyFrom_0 ⟨P.1, d + 1, P.2.1, v1.1, d' + 1, v1.2.1, P.b.k, _, k_copyBank v4 P.b I G (by omega), ?_⟩)
  rintro h10 ⟨p10, B10⟩
  have x10 : FrX d (d + 38) h h10 := p10.frx (by omega) (by omega)
  have P10 := P.frx x10
  have V10 := v1.frx x10
  have fs10 := p10.frs (S := fun c => d + 1 ≤ c ∧ c < d + 1 + 32) (fun c h1 h2 => ⟨h1, h2⟩)
  have of1 := off_bank Q P.a P.b to
  have of2 := off_bank v2 v1.a P.b to1
  have Q10 : AO h10 (d + 33) ow T := Q.frs P.a fs10 of1 (fun _ _ => rfl)
  have Q10' : AO h10 (d' + 33) ow T' := v2.frs v1.a fs10 of2 (fun _ _ => rfl)
  have R10' := v3.frs v2 v1.a w1 w3 fs10 of2
  have ecp : cpC h10 (d + 33) fi D.2.1.1 = cpC h (d + 33) fi D.2.1.1 := cpC_eq fun j => p10.hR _ _
  refine ⟨P10.1, d + 33, P10.2.2.1, V10.1, d' + 33, V10.2.2.1, P10.a.1, _, _, _, ?_, ?_, k_copyActs O P10.a Q10 V10.a Q10' R10' w1 w3 (by omega) hT, ?_⟩
  · rw [ecp]; exact Nat.le_refl _
  · rw [ecp]; exact Nat.le_refl _
  rintro h22 ⟨ow', eo, a22, q22, f22, n22, r22⟩
  rw [x10.hN] at eo
  have hn22 : hN h ≤ hN h22 := by rw [← x10.hN]; exact f22.1
  have A22 : ∀ b, d ≤ b → b < d + 38 → b ≠ d + 33 → b ≠ d + 34 → Ac b h10 h22 := fun b h1 h2 h3 h4 => f22.2 b (by rw [x10.hN]; omega) (by
    rintro (z | z | ⟨r, j, z1, z2, z3, _, z5, z6⟩)
    · omega
    · omega
    · have := off_cells P10 to b h1 h2 r j z1 z2 z3; omega)
  have A22' : ∀ b, d' ≤ b → b < d' + 38 → Ac b h10 h22 := fun b h1 h2 => f22.2 b (by rw [x10.hN]; omega) (by
    rintro (z | z | ⟨r, j, z1, z2, z3, _, z5, z6⟩)
    · omega
    · omega
    · have := off_cells V10 to2 b h1 h2 r j z1 z2 z3; omega)
  have P22 := P10.mid A22 a22 f22.1
  have AA' : ∀ b, d' ≤ b → b < d' + 38 → Ac b h h22 := fun b h1 h2 => (p10.ac (by omega)).trans (A22' b h1 h2)
  have V22 := v1.frs (S := fun b => ¬ (d' ≤ b ∧ b < d' + 38)) ⟨hn22, fun b hb hs => AA' b (by omega) (by omega)⟩ (fun b h1 h2 z => z ⟨h1, h2⟩)
  have N22 : DN h22 d' D := v5.ac (AA' d' (by omega) (by omega)).hI (AA' (d' + 35) (by omega) (by omega)).hI (AA' (d' + 36) (by omega) (by omega)).hI (AA' (d' + 37) (by omega) (by omega)).hI
  have B22 : BR h22 (d + 1) t ct nc nf (rn D.1) D.1 := B10.ac w1 w2.r24 P22.b (fun b h1 h2 _ => A22 b (by omega) (by omega) (by omega) (by omega))
  refine ⟨V22.1, P22.1, ?_⟩
  rw [N22.1]
  have fz : FrX d (d + 38) h22 (sI h22 d 4 (nI D.2.2.1.1)) := ((Fr1.refl _ _).sI _ _).frx (by omega) (by omega)
  have e4 : hI (sI h22 d 4 (nI D.2.2.1.1)) d 4 = nI D.2.2.1.1 := by rw [hI_sI, if_pos ⟨rfl, rfl⟩]
  have B0 : BR (sI h22 d 4 (nI D.2.2.1.1)) (d + 1) t ct nc nf (rn D.1) D.1 := B22.out w1 w2.r24 ((Fr1.refl _ _).sI _ _) (by omega)
  have R0 : AR (sI h22 d 4 (nI D.2.2.1.1)) (d + 33) t ct nc nf fi D.2.1.1 D.2.1.2 := by
    refine r22.frs (S := fun b => b = d) q22 a22 w1 w3 (((Fr1.refl d _).sI _ _).frs rfl) ⟨by omega, by omega, fun i hi b eb c h1 h2 z => ?_⟩
    subst z
    have := BS_out (q22 i hi b eb).1 (a := c) (by rw [P22.1]; decide) (by rw [P22.1]; decide) (by rw [P22.1]; decide) (by rw [P22.1]; decide) (by rw [P22.1]; decide)
    omega
  generalize sI h22 d 4 (nI D.2.2.1.1) = g0 at *
  -- the last: all put together
  have fin : ∀ (gg : PH), FrX (d + 35) (d + 38) g0 gg → DN gg d D → ∃ ow', (∀ b, b + 32 ≤ hN h → ow' b = ow b) ∧ DV gg d ow' T t ct nc nf fi D ∧ FrS (fun b => (d ≤ b ∧ b < d + 38) ∨ SA h (d + 33) ow T b) h gg ∧ nul gg (d + 33) + cpC h (d + 33) fi D.2.1.1 = nul h (d + 33) := by
    intro gg pg N
    have pz : FrX d (d + 38) h22 gg := fz.trans (pg.mono (by omega) (by omega))
    have Pg := P22.frx pz
    refine ⟨ow', eo, ⟨Pg, fun i hi b e => ?_, ?_, B0.frx w1 w2.r24 pg (Or.inr (by omega)), N, fun i hi => by rw [eo _ (by omega)]; exact to i hi⟩, ?_, ?_⟩
    · rw [pz.hR] at e
      exact ⟨(q22 i hi b e).1.frx pz, by rw [pz.hN]; exact (q22 i hi b e).2.1, (q22 i hi b e).2.2⟩
    · have q0 : AO g0 (d + 33) ow' T := fun i hi b e => by
        rw [fz.hR] at e
        exact ⟨(q22 i hi b e).1.frx fz, by rw [fz.hN]; exact (q22 i hi b e).2.1, (q22 i hi b e).2.2⟩
      have P0 := P22.frx fz
      refine R0.frs (S := fun b => d + 35 ≤ b ∧ b < d + 38) q0 P0.a w1 w3 (pg.frs fun c h1 h2 => ⟨h1, h2⟩) ⟨by omega, by omega, fun i hi b eb c h1 h2 z => ?_⟩
      have k : (hK g0 c).1 = 100 := by
        rcases (show c = d + 35 ∨ c = d + 36 ∨ c = d + 37 by omega) with rfl | rfl | rfl
        · rw [P0.2.2.2.2.1]
        · rw [P0.2.2.2.2.2.2.1]
        · rw [P0.2.2.2.2.2.2.2.2.1]
      have := BS_out (q0 i hi b eb).1 (a := c) (by rw [k]; decide) (by rw [k]; decide) (by rw [k]; decide) (by rw [k]; decide) (by rw [k]; decide)
      omega
    · refine FrS.step (FrS.step (x10.frs (S := fun b => (d ≤ b ∧ b < d + 38) ∨ SA h (d + 33) ow T b) fun c h1 h2 => Or.inl ⟨h1, h2⟩) f22 fun b hb z => ?_) (pz.frs (S := fun b => d ≤ b ∧ b < d + 38) fun c h1 h2 => ⟨h1, h2⟩) fun b hb z => Or.inl z
      rcases z with z | z | ⟨r, j, z1, z2, z3, z4, z5, z6⟩
      · exact Or.inl (by omega)
      · exact Or.inl (by omega)
      · exact Or.inr (Or.inr (Or.inr ⟨r, j, z1, z2, z3.bk x10, by rw [← x10.hN]; exact z4, z5, z6⟩))
    · rw [← ecp, nul_eq (h := h22) fun j => pz.hR _ _, n22]
      exact nul_eq fun j => p10.hR _ _
  have l72 : ∀ (j i : Nat) (g : PH) (rc rs : Nat), i + j = 3 → FrX (d + 35) (d + 38) g0 g → (∀ i', i' < D.2.2.1.1 → hI g (d + 35) i' = D.2.2.1.2.1 i' ∧ hI g (d + 36) i' = D.2.2.1.2.2 i') → (∀ i', i' < i → hI g (d + 37) i' = D.2.2.2 i') → Gm l x mX3_copyFrom 5 72 [(0, .ref d), (1, .ref d'), (2, .int (nI i))] [] g rc rs (hN h) (fun v h' => v = none ∧ ∃ ow', (∀ b, b + 32 ≤ hN h → ow' b = ow b) ∧ DV h' d ow' T t ct nc nf fi D ∧ FrS (fun b => (d ≤ b ∧ b < d + 38) ∨ SA h (d + 33) ow T b) h h' ∧ nul h' (d + 33) + cpC h (d + 33) fi D.2.1.1 = nul h (d + 33)) (fun _ _ => False) := by
    intro j
    induction j with
    | zero =>
      intro i g rc rs hi pg no st
      obtain rfl : i = 3 := by omega
      have Pg := (P22.frx fz).frx pg
      refine vX3_copyFrom_72 ⟨Pg.1, d + 37, Pg.2.2.2.2.2.2.2.1, by rw [Pg.2.2.2.2.2.2.2.2.1], fun _ => ⟨rfl, fin g pg ⟨?_, no, st⟩⟩, fun e => absurd (by rw [Pg.2.2.2.2.2.2.2.2.1]; decide) e⟩
      rw [(pg.ac (by omega)).hI]
      exact e4
    | succ j ih =>
      intro i g rc rs hi pg no st
      have Pg := (P22.frx fz).frx pg
      have Vg := (V22.frx fz).frx pg
      refine vX3_copyFrom_72 ⟨Pg.1, d + 37, Pg.2.2.2.2.2.2.2.1, by rw [Pg.2.2.2.2.2.2.2.2.1], fun e => absurd e (by rw [Pg.2.2.2.2.2.2.2.2.1]; exact nI_ge (b := 3) (by omega) (by decide)), fun _ => ⟨Vg.1, d' + 37, Vg.2.2.2.2.2.2.2.1, by rw [Vg.2.2.2.2.2.2.2.2.1], by rw [Vg.2.2.2.2.2.2.2.2.1]; exact vp_in_nI (by omega) (by decide), by rw [Pg.2.2.2.2.2.2.2.2.1]; exact vp_in_nI (by omega) (by decide), ?_⟩⟩
      rw [nI_clamp (by omega), nI_1, (pg.ac (c := d' + 37) (by omega)).hI, (fz.ac (c := d' + 37) (by omega)).hI, N22.2.2 i (by omega)]
      have f1 : Fr1 (d + 37) g (sI g (d + 37) i (D.2.2.2 i)) := (Fr1.refl _ _).sI _ _
      refine ih (i + 1) _ rc rs (by omega) (pg.trans (f1.frx (by omega) (by omega))) (fun i' hi' => ?_) (fun i' hi' => ?_)
      · rw [f1.hI (by omega), f1.hI (by omega)]; exact no i' hi'
      · rw [hI_sI]
        by_cases z : i' = i
        · rw [if_pos ⟨z, rfl⟩, z]
        · rw [if_neg fun q => z q.1]; exact st i' (by omega)
  have l32 : ∀ (j i : Nat) (g : PH) (rc rs : Nat), i + j = D.2.2.1.1 → FrX (d + 35) (d + 38) g0 g → (∀ i', i' < i → hI g (d + 35) i' = D.2.2.1.2.1 i' ∧ hI g (d + 36) i' = D.2.2.1.2.2 i') → Gm l x mX3_copyFrom 5 32 [(0, .ref d), (1, .ref d'), (2, .int (nI i))] [] g rc rs (hN h) (fun v h' => v = none ∧ ∃ ow', (∀ b, b + 32 ≤ hN h → ow' b = ow b) ∧ DV h' d ow' T t ct nc nf fi D ∧ FrS (fun b => (d ≤ b ∧ b < d + 38) ∨ SA h (d + 33) ow T b) h h' ∧ nul h' (d + 33) + cpC h (d + 33) fi D.2.1.1 = nul h (d + 33)) (fun _ _ => False) := by
    intro j
    induction j with
    | zero =>
      intro i g rc rs hi pg no
      have Pg := (P22.frx fz).frx pg
      refine vX3_copyFrom_32 ⟨Pg.1, fun _ => l72 3 0 g rc rs rfl pg (fun i' hi' => no i' (by omega)) (fun i' hi' => absurd hi' (Nat.not_lt_zero _)), fun e => absurd ?_ e⟩
      rw [(pg.ac (by omega)).hI, e4]
      exact nI_le (by omega) (by omega)
    | succ j ih =>
      intro i g rc rs hi pg no
      have Pg := (P22.frx fz).frx pg
      have Vg := (V22.frx fz).frx pg
      have i8 : i < 8 := by omega
      have vi : ∀ {n : Nat × Nat}, n.2 = 8 → vp_in (nI i) n.2 := fun e => by rw [e]; exact vp_in_nI (by omega) (by decide)
      refine vX3_copyFrom_32 ⟨Pg.1, fun e => absurd e (by rw [(pg.ac (by omega)).hI, e4]; exact nI_ge (by omega) (by omega)), fun _ => ⟨d + 35, Pg.2.2.2.1, Vg.1, d' + 35, Vg.2.2.2.1, by rw [Vg.2.2.2.2.1], vi (by rw [Vg.2.2.2.2.1]), by rw [Pg.2.2.2.2.1], vi (by rw [Pg.2.2.2.2.1]), d + 36, Pg.2.2.2.2.2.1, d' + 36, Vg.2.2.2.2.2.1, by rw [Vg.2.2.2.2.2.2.1], vi (by rw [Vg.2.2.2.2.2.2.1]), by rw [Pg.2.2.2.2.2.2.1], vi (by rw [Pg.2.2.2.2.2.2.1]), ?_⟩⟩
      have n1 := N22.2.1 i (by omega)
      have f1 : Fr1 (d + 35) g (sI g (d + 35) i (D.2.2.1.2.1 i)) := (Fr1.refl _ _).sI _ _
      rw [nI_clamp (by omega), nI_1, (pg.ac (c := d' + 35) (by omega)).hI, (fz.ac (c := d' + 35) (by omega)).hI, n1.1, f1.hI (by omega), (pg.ac (c := d' + 36) (by omega)).hI, (fz.ac (c := d' + 36) (by omega)).hI, n1.2]
      have f2 : Fr1 (d + 36) (sI g (d + 35) i (D.2.2.1.2.1 i)) (sI (sI g (d + 35) i (D.2.2.1.2.1 i)) (d + 36) i (D.2.2.1.2.2 i)) := (Fr1.refl _ _).sI _ _
      refine ih (i + 1) _ rc rs (by omega) ((pg.trans (f1.frx (by omega) (by omega))).trans (f2.frx (by omega) (by omega))) (fun i' hi' => ?_)
      rw [f2.hI (by omega), hI_sI, hI_sI, f1.hI (by omega)]
      by_cases z : i' = i
      · rw [if_pos ⟨z, rfl⟩, if_pos ⟨z, rfl⟩, z]
        exact ⟨rfl, rfl⟩
      · rw [if_neg fun q => z q.1, if_neg fun q => z q.1]; exact no i' (by omega)
  exact l32 D.2.2.1.1 0 g0 _ _ (by omega) (FrX.refl _ _ _) (fun i' hi' => absurd hi' (Nat.not_lt_zero _))
end Desk2
