/-! THE CLASS: the desk moves, all else stays -/
section KSdesk
variable {l : Launch} {x : CX} {h h' : PH} {nc nf nr fi fi' tl a b : Nat} {t ct rt tp : Nat → Int32} {ow ow' : Nat → Nat} {D D' : DT} {fp : Int32} {I : Option DT} {S : Nat → Prop}
abbrev KZ (t ct rt : Nat → Int32) (nc nf nr : Nat) (D : DT) (tl : Nat) (tp : Nat → Int32) (fp : Int32) (I : Option DT) : PH → Prop := fun g => KS g t ct rt nc nf nr D tl tp fp I
theorem SA_hi {T : Nat} (hT : 100 ≤ T) (o : OW ow) (k : (hK h 200).1 = 104) (z : SA h a ow T b) : b = a ∨ b = a + 1 ∨ 201 ≤ b := by
  rcases z with z | z | ⟨r, j, hj, e, s, _, h1, h2⟩
  · exact Or.inl z
  · exact Or.inr (Or.inl z)
  · have h3 := BS_out s (a := 200) (by rw [k]; decide) (by rw [k]; decide) (by rw [k]; decide) (by rw [k]; decide) (by rw [k]; decide)
    have h4 : 169 ≤ r := Nat.le_of_not_lt fun z => by have := o r z; omega
    omega
abbrev SDk (h : PH) (ow : Nat → Nat) (b : Nat) : Prop := (139 ≤ b ∧ b < 177) ∨ SA h 172 ow 100 b
theorem KO.dkS (K : KO h ow fi t ct rt nc nf nr D tl tp fp I) (W : SO t ct rt nc nf nr D I) (p : FrS (SDk h ow) h h') (eo : ∀ b, b + 32 ≤ hN h → ow' b = ow b) (V : DV h' 139 ow' 100 t ct nc nf fi' D') : KO h' ow' fi' t ct rt nc nf nr D' tl tp fp I ∧ (∀ b, 177 ≤ b → b < 201 → Ac b h h') ∧ ∀ k c s, nul h' 172 + k = nul h 172 → pot c s h' + c * k = pot c s h := by
  obtain ⟨k1, k2, k3, k4, k5, k6, k7, k8, k9, k10⟩ := K
  have n1 := p.1
  have A : ∀ b, b < 139 ∨ (177 ≤ b ∧ b < 201) → Ac b h h' := fun b hb => p.2 b (by omega) fun z => by
    rcases z with z | z
    · omega
    · rcases SA_hi (by decide) k6 k8 z with y | y | y <;> omega
  have A0 := A 0 (by decide)
  have fa : ∀ p0, hR h 0 5 = some p0 → 201 ≤ p0 → DS h p0 → AO h (p0 + 33) ow 200 → offA (SDk h ow) h (p0 + 33) := fun p0 z1 z2 z3 z4 => by
    have f1 := off_SA (T := 100) z4 z3.a k3.1.a (by omega) (by decide)
    have f2 := z4.hi (by decide) k6 k8
    exact ⟨fun z => z.elim (by omega) f1.1, fun z => z.elim (by omega) f1.2.1, fun i hi b e c c1 c2 z => z.elim (by have := f2 i hi b e; omega) (f1.2.2 i hi b e c c1 c2)⟩
  have pc : ∀ p0, hR h 0 5 = some p0 → 201 ≤ p0 → DS h p0 → ow (p0 + 1) < 100 → ∀ b, p0 ≤ b → b < p0 + 38 → ¬ SDk h ow b := fun p0 z1 z2 z3 z5 b h1 h2 z => by
    rcases z with z | z | z | ⟨r, j, hj, e, s, _, c1, c2⟩
    · omega
    · omega
    · omega
    · have := off_cells z3 (T := 100) (fun i hi => by omega) b h1 h2 r j hj e s
      omega
  refine ⟨⟨k1.acs fun b hb => A b (by omega), k2.acs W.1.c4 (by have := W.1.r20; omega) fun b h1 h2 => A b (by omega), V, k4.acs (A 1 (by decide)) (A 2 (by decide)), by rw [A0.hI]; exact k5, fun b hb => by rw [eo b (by omega)]; exact k6 b hb, by omega, by rw [(A 200 (by decide)).1]; exact k8, ?_, ?_⟩, fun b h1 h2 => A b (by omega), fun k c s hk => ?_⟩
  · rcases k9 with ⟨z1, z2⟩ | ⟨p0, z1, z2, z3, z4, z5, z6⟩
    · exact Or.inl ⟨(A0.hR 5).trans z1, z2⟩
    · have fo := fa p0 z1 z2 z3 z4
      have n3 := z3.nx
      refine Or.inr ⟨p0, (A0.hR 5).trans z1, z2, z3.frs p (pc p0 z1 z2 z3 z5), z4.frs z3.a p fo eo, by rw [eo _ (by omega)]; exact z5, fun J e => ?_⟩
      obtain ⟨fj, U⟩ := z6 J e
      exact ⟨fj, U.frs (W.2.2 J e).1 p ⟨pc p0 z1 z2 z3 z5, fo⟩ eo⟩
  · unfold PIF at k10 ⊢
    rw [A0.hI]
    exact k10
  · unfold pot
    rw [A0.hR]
    rcases k9 with ⟨z1, z2⟩ | ⟨p0, z1, z2, z3, z4, z5, z6⟩
    · rw [z1, ← hk, Nat.mul_add]
      simp only
      omega
    · rw [z1, ← hk, Nat.mul_add]
      simp only
      rw [nul_frs z3.a p (fa p0 z1 z2 z3 z4)]
      omega
theorem KQ.trans {h1 h2 : PH} {mc ms : Nat} {P P' : PH → Prop} (a : KQ h mc ms P h1) (b : KQ h1 0 0 P' h2) : KQ h mc ms P' h2 :=
  ⟨b.1, fun c q1 q2 => (a.2.1 c q1 q2).trans (b.2.1 c q1 q2), by have := a.2.2.1; have := b.2.2.1; omega, by have := a.2.2.2.1; have := b.2.2.2.1; omega, Nat.le_trans a.2.2.2.2 b.2.2.2.2⟩
/-- cells of the desk change in place -/
theorem KO.dk (K : KO h ow fi t ct rt nc nf nr D tl tp fp I) (W : SO t ct rt nc nf nr D I) (W' : SO t ct rt nc nf nr D' I) (p : FrX 139 177 h h') (V : DV h' 139 ow 100 t ct nc nf fi' D') : KQ h 0 0 (KZ t ct rt nc nf nr D' tl tp fp I) h' := by
  obtain ⟨q1, q2, q3⟩ := K.dkS W (p.frs fun c h1 h2 => Or.inl ⟨h1, h2⟩) (fun _ _ => rfl) V
  exact KQ.frx ⟨W', ow, fi', q1⟩ p (Nat.le_refl _)
theorem KO.now {F : Nat → Int32} (K : KO h ow fi t ct rt nc nf nr D tl tp fp I) (W : SO t ct rt nc nf nr D I) (W' : SO t ct rt nc nf nr (F, D.2) I) (p : FrB 140 h h') (B : BR h' 140 t ct nc nf (rn F) F) : KQ h 0 0 (KZ t ct rt nc nf nr (F, D.2) tl tp fp I) h' := by
  have x7 : FrX 139 177 h h' := p.frx (by decide) (by decide)
  refine K.dk (fi' := fi) W W' x7 ?_
  have k6 := K.2.2.2.2.2.1
  have k8 := K.2.2.2.2.2.2.2.1
  obtain ⟨v1, v2, v3, v4, v5, v6⟩ := K.V
  have pS : FrS (fun b => 140 ≤ b ∧ b < 172) h h' := p.frs fun c h1 h2 => ⟨h1, h2⟩
  have fo : offA (fun b => 140 ≤ b ∧ b < 172) h 172 := offA_lo v2 (by decide) k6 k8 (fun b z => by omega) (by omega) (by omega)
  exact ⟨v1.frx x7, v2.frs v1.a pS fo fun _ _ => rfl, v3.frs v2 v1.a W.1.c4 W.2.1.1.2.2.1 pS fo, B, v5.ac (p.ac (b := 139) (by omega)).hI (p.ac (b := 139 + 35) (by omega)).hI (p.ac (b := 139 + 36) (by omega)).hI (p.ac (b := 139 + 37) (by omega)).hI, v6⟩
theorem KO.note (K : KO h ow fi t ct rt nc nf nr D tl tp fp I) (W : SO t ct rt nc nf nr D I) (W' : SO t ct rt nc nf nr D' I) (p : FrX 139 177 h h') (A : ∀ b, 140 ≤ b → b < 174 → Ac b h h') (N : DN h' 139 D') (e1 : D'.1 = D.1) (e2 : D'.2.1 = D.2.1) : KQ h 0 0 (KZ t ct rt nc nf nr D' tl tp fp I) h' := by
  refine K.dk (fi' := fi) W W' p ?_
  have k6 := K.2.2.2.2.2.1
  have k8 := K.2.2.2.2.2.2.2.1
  obtain ⟨v1, v2, v3, v4, v5, v6⟩ := K.V
  have pS : FrS (fun b => b = 139 ∨ (174 ≤ b ∧ b < 177)) h h' := ⟨by rw [p.hN]; exact Nat.le_refl _, fun b _ hs => by
    by_cases z : 140 ≤ b ∧ b < 174
    · exact A b z.1 z.2
    · exact p.ac (by omega)⟩
  have fo : offA (fun b => b = 139 ∨ (174 ≤ b ∧ b < 177)) h 172 := offA_lo v2 (by decide) k6 k8 (fun b z => by omega) (by omega) (by omega)
  refine ⟨v1.frx p, v2.frs v1.a pS fo fun _ _ => rfl, ?_, ?_, N, v6⟩
  · rw [e2]; exact v3.frs v2 v1.a W.1.c4 W.2.1.1.2.2.1 pS fo
  · rw [e1]; exact v4.ac W.1.c4 W.2.1.w.r24 (v4.s.ac fun b h1 h2 => A b h1 (by omega)) fun b h1 h2 _ => A b h1 (by omega)
theorem k_refuse (K : KS h t ct rt nc nf nr D tl tp fp I) : CI l x mX7_refuseAct 0 0 0 [.ref 0] h (fun v h' => v = -1 ∧ KQ h 0 0 (KZ t ct rt nc nf nr (dRef D 1) tl tp fp I) h') := by
  obtain ⟨W, ow, fi, K⟩ := K
  have r := K.rf
  have vi : vp_in 1 (hK h 176).2 := by rw [r.2]; exact vp_in_nI (n := 1) (by decide) (by decide)
  refine Cm.of (by decide) (Nat.le_of_ble_eq_true rfl) (vX7_refuseAct_0 ⟨K.k0, 139, K.r6, K.kd, 176, r.1, by rw [r.2], vi, vi, _, rfl, rfl, ?_⟩)
  have f1 : Fr1 176 h (sI h 176 (Int32.toNatClampNeg 1) (hI h 176 (Int32.toNatClampNeg 1) + 1)) := (Fr1.refl _ _).sI _ _
  refine K.note (D' := dRef D 1) W W (f1.frx (by decide) (by decide)) (fun b h1 h2 => f1.ac (by omega)) ?_ rfl rfl
  obtain ⟨d1, d2, d3⟩ := K.V.2.2.2.2.1
  refine ⟨by rw [f1.hI (by decide)]; exact d1, fun i hi => by rw [f1.hI (by decide), f1.hI (by decide)]; exact d2 i hi, fun i hi => ?_⟩
  show hI (sI h 176 1 (hI h 176 1 + 1)) 176 i = up D.2.2.2 1 (D.2.2.2 1 + 1) i
  by_cases z : i = 1
  · rw [z, gI, up_eq]
    have := d3 1 (by decide)
    exact congrArg (· + 1) this
  · rw [gIk _ _ _ z, up_ne z]
    exact d3 i hi
theorem k_keepD (O : XN x) (K : KO h ow fi t ct rt nc nf nr D tl tp fp I) (W : SO t ct rt nc nf nr D I) : ∃ mc ms, mc ≤ pot 32 38 h ∧ ms ≤ pot 359 427 h ∧ CV l x mX0_keep 4 mc ms [.ref 172, .ref 140] h (fun h' => KQ h mc ms (fun g => ∃ ow' fi', KO g ow' fi' t ct rt nc nf nr (dKeep D D.1) tl tp fp I) h') := by
  have k6 := K.2.2.2.2.2.1
  have k7 := K.2.2.2.2.2.2.1
  have k8 := K.2.2.2.2.2.2.2.1
  obtain ⟨v1, v2, v3, v4, v5, v6⟩ := id K.V
  have cs : cst h 172 ((fi + D.2.1.1) % 40) ≤ nul h 172 := by
    unfold cst
    split
    · rename_i e
      exact fb_ct_pos.mpr ⟨_, Nat.mod_lt _ (by decide), decide_eq_true e⟩
    · exact Nat.zero_le _
  have e1 := Nat.mul_le_mul_left 32 cs
  have e2 := Nat.mul_le_mul_left 359 cs
  refine ⟨32 * cst h 172 ((fi + D.2.1.1) % 40), 359 * cst h 172 ((fi + D.2.1.1) % 40), Nat.le_trans e1 (Nat.le_add_right _ _), Nat.le_trans e2 (Nat.le_add_right _ _), Cm.mono (k_keep O v1.a v2 v3 W.2.1.1.2.2.1 v4 W.2.1.w (by omega) v6) ?_⟩
  rintro v h1 ⟨e0, r, a1, o1, p1, r1, n1, R1⟩
  refine ⟨e0, ?_⟩
  have hr : 201 ≤ r := by
    rcases r1 with z | ⟨z1, z2, z3⟩
    · omega
    · have := SA_hi (a := 172) (b := r) (T := 100) (h := h) (by decide) k6 k8 (Or.inr (Or.inr ⟨r, _, Nat.mod_lt _ (by decide), z3, z2, z1, Nat.le_refl _, by omega⟩))
      have := BS_out z2 (a := 172) (by rw [v1.a.1]; decide) (by rw [v1.a.1]; decide) (by rw [v1.a.1]; decide) (by rw [v1.a.1]; decide) (by rw [v1.a.1]; decide)
      have := BS_out z2 (a := 173) (by rw [v1.a.2.2.1]; decide) (by rw [v1.a.2.2.1]; decide) (by rw [v1.a.2.2.1]; decide) (by rw [v1.a.2.2.1]; decide) (by rw [v1.a.2.2.1]; decide)
      omega
  have A : ∀ b, b < 201 → b ≠ 172 → b ≠ 173 → Ac b h h1 := fun b h1 h2 h3 => p1.2 b (by omega) (by omega)
  have V : DV h1 139 (tagR ow 100 r ((fi + D.2.1.1) % 40)) 100 t ct nc nf (kfi fi D.2.1.1) (dKeep D D.1) := by
    refine ⟨v1.mid (fun b q1 q2 q3 q4 => A b (by omega) q3 q4) a1 p1.1, o1, R1, v4.ac W.1.c4 W.2.1.w.r24 (v4.s.ac fun b q1 q2 => A b (by omega) (by omega) (by omega)) (fun b q1 q2 _ => A b (by omega) (by omega) (by omega)), v5.ac (A 139 (by decide) (by decide) (by decide)).hI (A (139 + 35) (by decide) (by decide) (by decide)).hI (A (139 + 36) (by decide) (by decide) (by decide)).hI (A (139 + 37) (by decide) (by decide) (by decide)).hI, fun i hi => ?_⟩
    unfold tagR
    rw [if_neg (by omega)]
    exact v6 i hi
  have pS : FrS (SDk h ow) h h1 := p1.mono fun b hb z => by
    rcases z with z | z | ⟨z1, z2⟩
    · exact Or.inl (by omega)
    · exact Or.inl (by omega)
    · rcases r1 with y | ⟨y1, y2, y3⟩
      · omega
      · exact Or.inr (Or.inr (Or.inr ⟨r, _, Nat.mod_lt _ (by decide), y3, y2, y1, z1, z2⟩))
  obtain ⟨q1, q2, q3⟩ := K.dkS W pS (fun b hb => by
    unfold tagR
    by_cases z : b = r
    · rw [if_pos z]
      rcases r1 with y | ⟨y1, y2, y3⟩
      · omega
      · rw [z]; exact y3.symm
    · rw [if_neg z]) V
  exact ⟨⟨_, _, q1⟩, q2, q3 _ 32 38 n1, q3 _ 359 427 n1, p1.1⟩
end KSdesk
