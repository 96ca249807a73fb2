/-! THE CLASS: Acts, copyFrom -/
section ActsK4
variable {l : Launch} {x : CX} {h h' g : PH} {a a' o T T' nc nf nr m c n r i fi : Nat} {f t ct rt : Nat → Int32} {ow ow' : Nat → Nat} {A : Nat → Nat → Int32} {S : Nat → Prop}
/-- the cells of an Acts and of its rows' Banks -/
def SA (h : PH) (a : Nat) (ow : Nat → Nat) (T b : Nat) : Prop := b = a ∨ b = a + 1 ∨ ∃ r j, j < 40 ∧ ow r = T + j ∧ BS h r ∧ r + 32 ≤ hN h ∧ r ≤ b ∧ b < r + 32
theorem FrS.step {S2 : Nat → Prop} (p : FrS S h g) (q : FrS S2 g h') (e : ∀ b, b < hN h → S2 b → S b) : FrS S h h' := ⟨Nat.le_trans p.1 q.1, fun b hb hs => (p.2 b hb hs).trans (q.2 b (Nat.lt_of_lt_of_le hb p.1) fun z => hs (e b hb z))⟩
theorem off_SA (Q' : AO h a' ow T') (P' : AS h a') (P : AS h a) (ne : a ≠ a') (hT : T + 40 ≤ T' ∨ T' + 40 ≤ T) : offA (SA h a ow T) h a' := by
  have k1 : a' ≠ a + 1 := fun z => by have := P'.1; rw [z, P.2.2.1] at this; exact absurd this (by decide)
  have k2 : a' + 1 ≠ a := fun z => by have := P.1; rw [← z, P'.2.2.1] at this; exact absurd this (by decide)
  refine ⟨?_, ?_, fun i hi b eb c h1 h2 => ?_⟩
  · rintro (z | z | ⟨r, j, _, _, s, _, z1, z2⟩)
    · exact ne z.symm
    · exact k1 z
    · have := (P'.out s).1; omega
  · rintro (z | z | ⟨r, j, _, _, s, _, z1, z2⟩)
    · exact k2 z
    · omega
    · have := (P'.out s).2; omega
  · obtain ⟨s1, s2, s3⟩ := Q' i hi b eb
    rintro (z | z | ⟨r, j, z0, z1, z2, z3, z4, z5⟩)
    · have := (P.out s1).1; omega
    · have := (P.out s1).2; omega
    · have nb : b ≠ r := fun q => by rw [q, z1] at s3; omega
      have := BS_sep s1 z2 nb
      omega
/-- how many of n rows from fi on are still to be made -/
def cpC (h : PH) (a fi n : Nat) : Nat := fb_ct (fun i => decide (hR h (a + 1) ((fi + i) % 40) = none)) n
theorem cpC_s (h : PH) (a fi n : Nat) : cpC h a fi (n + 1) = cpC h a fi n + cst h a ((fi + n) % 40) := by
  unfold cpC
  rw [fb_ct_succ]
  cases e : hR h (a + 1) ((fi + n) % 40) with
  | none => rw [cst_n e, if_pos (by decide)]
  | some b => rw [cst_s e, if_neg (by simp)]
theorem cpC_le (h : PH) (a fi : Nat) {m n : Nat} (e : m ≤ n) : cpC h a fi m ≤ cpC h a fi n := fb_ct_mono _ e
theorem k_copyActs (O : XN x) (P : AS h a) (Q : AO h a ow T) (P' : AS h a') (Q' : AO h a' ow T') (R' : AR h a' t ct nc nf fi n A) (hC : nc ≤ 4) (WA : ∀ i, i < n → Row ct nc nf (rn (A i)) (A i)) (ne : a ≠ a') (hT : T + 40 ≤ T' ∨ T' + 40 ≤ T) : CV l x mX0_copyFrom 4 (32 * cpC h a fi n) (359 * cpC h a fi n) [.ref a, .ref a'] h (fun h' => ∃ ow', (∀ b, b + 32 ≤ hN h → ow' b = ow b) ∧ AS h' a ∧ AO h' a ow' T ∧ FrS (SA h a ow T) h h' ∧ nul h' a + cpC h a fi n = nul h a ∧ AR h' a t ct nc nf fi n A) := by
  have off := off_SA Q' P' P ne hT
  have R0 := R'
  obtain ⟨a1, a2, a3, a4, a5⟩ := R'
  have loop : ∀ (j i : Nat) (g : PH) (rc rs : Nat) (ow' : Nat → Nat), i + j = n → 32 * (cpC h a fi n - cpC h a fi i) ≤ rc → 359 * (cpC h a fi n - cpC h a fi i) ≤ rs → (∀ b, b + 32 ≤ hN h → ow' b = ow b) → AS g a → AO g a ow' T → hI g a 1 = nI fi → hI g a 2 = nI n → (∀ i', i' < i → ∃ b, hR g (a + 1) ((fi + i') % 40) = some b ∧ BR g b t ct nc nf (rn (A i')) (A i')) → (∀ k, (∀ i', i' < i → k ≠ (fi + i') % 40) → hR g (a + 1) k = hR h (a + 1) k) → FrS (SA h a ow T) h g → nul g a + cpC h a fi i = nul h a → Gm l x mX0_copyFrom 4 18 [(0, .ref a), (1, .ref a'), (2, .int (nI i))] [] g rc rs (hN h) (fun v h' => v = none ∧ ∃ ow', (∀ b, b + 32 ≤ hN h → ow' b = ow b) ∧ AS h' a ∧ AO h' a ow' T ∧ FrS (SA h a ow T) h h' ∧ nul h' a + cpC h a fi n = nul h a ∧ AR h' a t ct nc nf fi n A) (fun _ _ => False) := by
    intro j
    induction j with
    | zero =>
      intro i g rc rs ow' hi _ _ eo Pg Qg e1 e2 don rest fr nu
      obtain rfl : i = n := by omega
      refine vX0_copyFrom_18 ⟨Pg.1, fun _ => ⟨rfl, ow', eo, Pg, Qg, fr, nu, a1, e1, e2, a4, don⟩, fun e => absurd ?_ e⟩
      rw [e2]
      exact nI_le (Nat.le_refl _) (by omega)
    | succ j ih =>
      intro i g rc rs ow' hi hrc hrs eo Pg Qg e1 e2 don rest fr nu
      have hx : (fi + i) % 40 < 40 := Nat.mod_lt _ (by decide)
      have hn : hN h ≤ hN g := fr.1
      have Wi := WA i (by omega)
      have cs := cpC_s h a fi i
      have cl := cpC_le h a fi (show i + 1 ≤ n by omega)
      have rx : hR g (a + 1) ((fi + i) % 40) = hR h (a + 1) ((fi + i) % 40) := rest _ fun i' hi' => by omega
      have ec : cst g a ((fi + i) % 40) = cst h a ((fi + i) % 40) := by unfold cst; rw [rx]
      -- the other at g
      have P'g := P'.frs fr off
      have Q'g : AO g a' ow' T' := Q'.frs P' fr off eo
      have R'g := R0.frs Q' P' hC WA fr off
      obtain ⟨b, b1, b2⟩ := R'g.2.2.2.2 i (by omega)
      refine vX0_copyFrom_18 ⟨Pg.1, fun e => absurd e (by rw [e2]; exact nI_ge (by omega) (by omega)), fun _ => ?_⟩
      rw [e1, nI_add, m40 _ (by omega), nI_1]
      refine ⟨_, _, _, ?_, ?_, k_rowAt O Pg Qg hx, ?_⟩
      · rw [ec]; omega
      · rw [ec]; omega
      intro r h7 R7
      have k1 : a' ≠ a + 1 := fun z => by have := P'.1; rw [z, P.2.2.1] at this; exact absurd this (by decide)
      have fr7 : FrS (fun b => b = a + 1) g h7 := ⟨R7.2.2.2.1, fun b hb hs => R7.2.2.2.2.2.2.2 b hb hs⟩
      have off7 : offA (fun b => b = a + 1) g a' := ⟨k1, by omega, fun i hi b eb c h1 h2 => by have := (Pg.out (Q'g i hi b eb).1).2; omega⟩
      have P7 := P'g.frs fr7 off7
      have Q7 : AO h7 a' ow' T' := Q'g.frs P'g fr7 off7 (fun _ _ => rfl)
      have b7 : hR h7 (a' + 1) ((fi + i) % 40) = some b := by rw [(fr7.2 (a' + 1) P'g.2.2.2 off7.2.1).hR]; exact b1
      have sb := Q'g _ hx b b1
      have B7 : BR h7 b t ct nc nf (rn (A i)) (A i) := b2.frs hC Wi.r24 fr7 sb.2.1 fun c h1 h2 => off7.2.2 _ hx b b1 c h1 h2
      refine ⟨P7.1, 0, 0, fun r15 h14 => r15 = b ∧ h14 = h7, by omega, by omega, ?_, ?_⟩
      · have c0 : cst h7 a' ((fi + i) % 40) = 0 := cst_s b7
        have k := k_rowAt (l := l) (x := x) O P7 Q7 hx
        rw [c0] at k
        refine Cm.mono k ?_
        rintro v h'' ⟨r', e', R15⟩
        refine ⟨r', e', ?_⟩
        rcases R15.2.2.2.2.1 with ⟨z, z2⟩ | ⟨z, _⟩
        · exact ⟨Option.some.inj (z.symm.trans b7), z2⟩
        · rw [b7] at z; cases z
      rintro r15 h14 ⟨e15, e14⟩
      rw [e15, e14]
      clear e15 e14 r15 h14
      obtain ⟨⟨m, I⟩, G, _⟩ := id Wi
      have ne7 : r ≠ b := fun z => by
        rcases R7.2.2.2.2.1 with ⟨z1, _⟩ | ⟨_, z1⟩
        · have q1 := (Qg _ hx r z1).2.2
          rw [z, sb.2.2] at q1
          omega
        · have := sb.2.1; omega
      have sp := BS_sep R7.1 B7.s ne7
      refine ⟨R7.1.k, _, k_copyBank B7 R7.1 I G (by omega), ?_⟩
      rintro h19 ⟨p19, B19⟩
      obtain ⟨y1, y2, y3, y4, y5, y6, y7, y8, y9⟩ := lay Pg Qg hx R7 p19
      refine ih (i + 1) h19 _ _ (tagR ow' T r ((fi + i) % 40)) (by omega) (by rw [ec]; omega) (by rw [ec]; omega) (fun b' hb' => ?_) y1 y2 (by rw [y9.hI]; exact e1) (by rw [y9.hI]; exact e2) (fun i' hi' => ?_) (fun k hk => ?_) (fr.step y5 fun b' hb' z => ?_) (by omega)
      · unfold tagR
        by_cases z : b' = r
        · rw [if_pos z, z]
          rw [z] at hb'
          rcases y7 with q | ⟨_, _, q⟩
          · omega
          · rw [← q]; exact eo r hb'
        · rw [if_neg z]; exact eo b' hb'
      · rcases Nat.lt_or_ge i' i with z | z
        · obtain ⟨b', c1, c2⟩ := don i' z
          have hne : (fi + i') % 40 ≠ (fi + i) % 40 := by omega
          have Ab := y6 _ b' (Nat.mod_lt _ (by decide)) hne c1
          exact ⟨b', (y4 _ hne).trans c1, c2.ac hC (WA i' (by omega)).r24 (c2.s.ac fun c q1 q2 => Ab c q1 q2) (fun c q1 q2 _ => Ab c q1 q2)⟩
        · obtain rfl : i' = i := by omega
          exact ⟨r, y3, B19⟩
      · exact (y4 k (hk i (by omega))).trans (rest k fun i' hi' => hk i' (by omega))
      · rcases z with z | ⟨z1, z2⟩
        · exact Or.inr (Or.inl z)
        · rcases R7.2.2.2.2.1 with ⟨z, _⟩ | ⟨_, z⟩
          · rw [rx] at z
            obtain ⟨s1, s2, s3⟩ := Q _ hx r z
            exact Or.inr (Or.inr ⟨r, _, hx, s3, s1, s2, z1, z2⟩)
          · omega
  refine Cm.of (by decide) (Nat.le_of_ble_eq_true rfl) (vX0_copyFrom_0 ⟨P'.1, P.1, ?_⟩)
  rw [a2, a3]
  have fz : Fr1 a h (sI (sI h a 1 (nI fi)) a 2 (nI n)) := ((Fr1.refl _ _).sI _ _).sI _ _
  refine loop n 0 _ _ _ ow (by omega) (Nat.mul_le_mul_left _ (Nat.sub_le _ _)) (Nat.mul_le_mul_left _ (Nat.sub_le _ _)) (fun _ _ => rfl) P (fun i hi b e => ⟨(Q i hi b e).1.fr fz, (Q i hi b e).2⟩) ?_ ?_ (fun i' hi' => absurd hi' (Nat.not_lt_zero _)) (fun _ _ => rfl) (fz.frs (Or.inl rfl)) ?_
  · rw [hI_sI, if_neg fun z => absurd z.1 (by decide), hI_sI, if_pos ⟨rfl, rfl⟩]
  · rw [hI_sI, if_pos ⟨rfl, rfl⟩]
  · rw [show cpC h a fi 0 = 0 from rfl, Nat.add_zero]
    exact nul_eq fun j => rfl
end ActsK4
