/-! THE CLASS: Acts, keep and takeBack -/
theorem ct_eq {p q : Nat → Bool} : ∀ n, (∀ i, i < n → p i = q i) → fb_ct p n = fb_ct q n
  | 0, _ => rfl
  | n + 1, h => by rw [fb_ct_succ, fb_ct_succ, ct_eq n fun i hi => h i (by omega), h n (by omega)]
theorem ct_one {p q : Nat → Bool} {i : Nat} (e : ∀ j, j ≠ i → p j = q j) (h1 : p i = true) (h2 : q i = false) : ∀ n, i < n → fb_ct q n + 1 = fb_ct p n
  | 0, h => absurd h (Nat.not_lt_zero _)
  | n + 1, h => by
    rw [fb_ct_succ, fb_ct_succ]
    by_cases z : n = i
    · subst z
      rw [h1, h2, ct_eq n fun j hj => (e j (by omega)).symm]
      rfl
    · rw [e n z]
      have := ct_one e h1 h2 n (by omega)
      omega
/-- how many rows are still to be made -/
def nul (h : PH) (a : Nat) : Nat := fb_ct (fun i => decide (hR h (a + 1) i = none)) 40
theorem nul_eq {h h' : PH} {a : Nat} (e : ∀ j, hR h' (a + 1) j = hR h (a + 1) j) : nul h' a = nul h a := by
  unfold nul
  exact congrArg (fun p => fb_ct p 40) (funext fun j => by rw [e j])
theorem nul_one {h h' : PH} {a i : Nat} (hi : i < 40) (e : ∀ j, j ≠ i → hR h' (a + 1) j = hR h (a + 1) j) (h1 : hR h (a + 1) i = none) (h2 : ¬ hR h' (a + 1) i = none) : nul h' a + 1 = nul h a := by
  unfold nul
  exact ct_one (i := i) (fun j hj => by rw [e j hj]) (decide_eq_true h1) (decide_eq_false h2) 40 hi
theorem m40 : ∀ k, k < 80 → nI k - nI k / 40 * 40 = nI (k % 40) := by decide +kernel
section ActsK2
variable {l : Launch} {x : CX} {h h' g g7 g12 : PH} {a o T nc nf nr m c n r i fi : Nat} {f t ct rt : Nat → Int32} {ow : Nat → Nat} {A : Nat → Nat → Int32}
def tagR (ow : Nat → Nat) (T r i : Nat) : Nat → Nat := fun b => if b = r then T + i else ow b
theorem lay (P : AS g a) (Q : AO g a ow T) (hi : i < 40) (R : RA g a i r g7) (p : FrB r g7 g12) : AS g12 a ∧ AO g12 a (tagR ow T r i) T ∧ hR g12 (a + 1) i = some r ∧ (∀ j, j ≠ i → hR g12 (a + 1) j = hR g (a + 1) j) ∧ FrS (fun b => b = a + 1 ∨ (r ≤ b ∧ b < r + 32)) g g12 ∧ (∀ j b, j < 40 → j ≠ i → hR g (a + 1) j = some b → ∀ c, b ≤ c → c < b + 32 → Ac c g g12) ∧ (r = hN g ∨ (r + 32 ≤ hN g ∧ BS g r ∧ ow r = T + i)) ∧ nul g12 a + cst g a i = nul g a ∧ Ac a g g12 := by
  obtain ⟨r1, r2, r3, r4, r5, r6, r7, r8⟩ := R
  obtain ⟨p1, p2, p3, p4⟩ := P
  have ka := (r8 a (by omega) (by omega)).1
  have oa : a < r ∨ r + 32 ≤ a := BS_out r1 (by rw [ka, p1]; decide) (by rw [ka, p1]; decide) (by rw [ka, p1]; decide) (by rw [ka, p1]; decide) (by rw [ka, p1]; decide)
  have oa1 : a + 1 < r ∨ r + 32 ≤ a + 1 := BS_out r1 (by rw [r6, p3]; decide) (by rw [r6, p3]; decide) (by rw [r6, p3]; decide) (by rw [r6, p3]; decide) (by rw [r6, p3]; decide)
  have Aa : Ac a g g12 := (r8 a (by omega) (by omega)).trans (p.ac oa)
  have tr : r = hN g ∨ (r + 32 ≤ hN g ∧ BS g r ∧ ow r = T + i) := by
    rcases r5 with ⟨z, rfl⟩ | ⟨_, z⟩
    · exact Or.inr ⟨(Q i hi r z).2.1, (Q i hi r z).1, (Q i hi r z).2.2⟩
    · exact Or.inl z
  have hn : hN g12 = hN g7 := p.1
  have q2 : ∀ j, j ≠ i → hR g12 (a + 1) j = hR g (a + 1) j := fun j hj => (p.hR _ _).trans (r7 j hj)
  have sep : ∀ j b, j < 40 → j ≠ i → hR g (a + 1) j = some b → BS g7 b ∧ b ≠ r ∧ ∀ c, b ≤ c → c < b + 32 → Ac c g g12 := by
    intro j b hj hji e
    obtain ⟨s1, s2, s3⟩ := Q j hj b e
    have ob : a + 1 < b ∨ b + 32 ≤ a + 1 := BS_out s1 (by rw [p3]; decide) (by rw [p3]; decide) (by rw [p3]; decide) (by rw [p3]; decide) (by rw [p3]; decide)
    have s7 : BS g7 b := s1.ac fun c h1 h2 => r8 c (by omega) (by omega)
    have nb : b ≠ r := fun z => by
      subst z
      rcases tr with z | ⟨_, _, z⟩ <;> omega
    refine ⟨s7, nb, fun c h1 h2 => (r8 c (by omega) (by omega)).trans (p.ac ?_)⟩
    have := BS_sep s7 r1 nb
    omega
  refine ⟨⟨by rw [Aa.1]; exact p1, by rw [Aa.hR]; exact p2, by rw [p.hK, r6]; exact p3, by omega⟩, ?_, (p.hR _ _).trans r3, q2, ⟨by omega, fun b hb hs => (r8 b hb fun z => hs (Or.inl z)).trans (p.ac ?_)⟩, fun j b hj hji e => (sep j b hj hji e).2.2, tr, ?_, Aa⟩
  · intro j hj b e
    by_cases z : j = i
    · subst z
      rw [p.hR, r3] at e
      cases e
      exact ⟨r1.frb p, by omega, if_pos rfl⟩
    · rw [q2 j z] at e
      obtain ⟨s7, nb, _⟩ := sep j b hj z e
      exact ⟨s7.frb p, by have := (Q j hj b e).2.1; omega, (if_neg nb).trans (Q j hj b e).2.2⟩
  · refine Classical.byContradiction fun z => hs (Or.inr ?_)
    omega
  · rcases r5 with ⟨z, rfl⟩ | ⟨z, _⟩
    · rw [cst_s z, Nat.add_zero]
      exact nul_eq fun j => p.hR _ _
    · rw [cst_n z]
      refine nul_one hi q2 z ?_
      rw [p.hR, r3]
      exact fun e => by cases e
/-- the kept acts: n of them, the first at fi -/
def AR (h : PH) (a : Nat) (t ct : Nat → Int32) (nc nf fi n : Nat) (A : Nat → Nat → Int32) : Prop := fi < 40 ∧ hI h a 1 = nI fi ∧ hI h a 2 = nI n ∧ n ≤ 40 ∧ ∀ i, i < n → ∃ b, hR h (a + 1) ((fi + i) % 40) = some b ∧ BR h b t ct nc nf (rn (A i)) (A i)
abbrev kfi (fi n : Nat) : Nat := if n = 40 then (fi + 1) % 40 else fi
theorem k_keep (O : XN x) (P : AS h a) (Q : AO h a ow T) (R : AR h a t ct nc nf fi n A) (WA : ∀ i, i < n → Row ct nc nf (rn (A i)) (A i)) (B : BR h o t ct nc nf nr f) (W : Row ct nc nf nr f) (ho : o + 32 ≤ hN h) (to : ∀ i, i < 40 → ow o ≠ T + i) : CV l x mX0_keep 4 (32 * cst h a ((fi + n) % 40)) (359 * cst h a ((fi + n) % 40)) [.ref a, .ref o] h (fun h' => ∃ r, AS h' a ∧ AO h' a (tagR ow T r ((fi + n) % 40)) T ∧ FrS (fun b => b = a ∨ b = a + 1 ∨ (r ≤ b ∧ b < r + 32)) h h' ∧ (r = hN h ∨ (r + 32 ≤ hN h ∧ BS h r ∧ ow r = T + (fi + n) % 40)) ∧ nul h' a + cst h a ((fi + n) % 40) = nul h a ∧ AR h' a t ct nc nf (kfi fi n) (kaN n) (kaA n A f)) := by
  obtain ⟨a1, a2, a3, a4, a5⟩ := R
  have hC := W.c4
  have h24 := W.r24
  obtain ⟨⟨m, I⟩, G, _⟩ := W
  have main : ∀ (fi' n' : Nat) (g : PH), Fr1 a h g → hI g a 1 = nI fi' → hI g a 2 = nI n' → fi' < 40 → n' < 40 → (fi' + n') % 40 = (fi + n) % 40 → kaN n = n' + 1 → kfi fi n = fi' → (∀ i, i < n' → ∃ i', i' < n ∧ kaA n A f i = A i' ∧ (fi' + i) % 40 = (fi + i') % 40) → kaA n A f n' = f → ∃ (mc5 ms6 : Nat) (q3 : Nat → PH → Prop), mc5 ≤ 32 * cst h a ((fi + n) % 40) ∧ ms6 ≤ 359 * cst h a ((fi + n) % 40) ∧ CA l x mX0_rowAt 3 mc5 ms6 [.ref a, .int (nI ((fi' + n') % 40))] g q3 ∧ ∀ (r8 : Nat) (h7 : PH), q3 r8 h7 → ((hK h7 r8).1 = 1) ∧ ∃ (q9 : PH → Prop), CV l x mX1_copyFrom 1 0 0 [.ref r8, .ref o] h7 q9 ∧ ∀ (h12 : PH), q9 h12 → ((hK h12 a).1 = 0) ∧ ((none : Option Value) = none ∧ (fun h' => ∃ r, AS h' a ∧ AO h' a (tagR ow T r ((fi + n) % 40)) T ∧ FrS (fun b => b = a ∨ b = a + 1 ∨ (r ≤ b ∧ b < r + 32)) h h' ∧ (r = hN h ∨ (r + 32 ≤ hN h ∧ BS h r ∧ ow r = T + (fi + n) % 40)) ∧ nul h' a + cst h a ((fi + n) % 40) = nul h a ∧ AR h' a t ct nc nf (kfi fi n) (kaN n) (kaA n A f)) (sI h12 a 2 ((hI h12 a 2) + 1))) := by
    intro fi' n' g pg e1 e2 l1 l2 ei eN eK old new
    have Pg : AS g a := ⟨by rw [pg.hK]; exact P.1, by rw [pg.hR]; exact P.2.1, by rw [pg.hK]; exact P.2.2.1, by rw [pg.hN]; exact P.2.2.2⟩
    have Qg : AO g a ow T := fun i hi b e => by
      rw [pg.hR] at e
      obtain ⟨s1, s2, s3⟩ := Q i hi b e
      exact ⟨s1.fr pg, by rw [pg.hN]; exact s2, s3⟩
    have ec : cst g a ((fi + n) % 40) = cst h a ((fi + n) % 40) := by unfold cst; rw [pg.hR]
    rw [ei, ← ec]
    have hi : (fi + n) % 40 < 40 := Nat.mod_lt _ (by decide)
    generalize hx : (fi + n) % 40 = ix at *
    refine ⟨_, _, _, Nat.le_refl _, Nat.le_refl _, k_rowAt O Pg Qg hi, fun r h7 R7 => ⟨R7.1.k, ?_⟩⟩
    have oa1 : a + 1 < o ∨ o + 32 ≤ a + 1 := BS_out B.s (by rw [P.2.2.1]; decide) (by rw [P.2.2.1]; decide) (by rw [P.2.2.1]; decide) (by rw [P.2.2.1]; decide) (by rw [P.2.2.1]; decide)
    have oa : a < o ∨ o + 32 ≤ a := BS_out B.s (by rw [P.1]; decide) (by rw [P.1]; decide) (by rw [P.1]; decide) (by rw [P.1]; decide) (by rw [P.1]; decide)
    have Bg := B.out hC h24 pg oa
    have A7 : ∀ b, o ≤ b → b < o + 32 → Ac b g h7 := fun b h1 h2 => R7.2.2.2.2.2.2.2 b (by rw [pg.hN]; omega) (by omega)
    have B7 := Bg.ac hC h24 (Bg.s.ac A7) (fun b h1 h2 _ => A7 b h1 h2)
    have ne : r ≠ o := fun z => by
      subst z
      rcases R7.2.2.2.2.1 with ⟨z, _⟩ | ⟨_, z⟩
      · exact to ix hi (Qg ix hi r z).2.2
      · rw [pg.hN] at z; omega
    have sp := BS_sep R7.1 B7.s ne
    refine ⟨_, k_copyBank B7 R7.1 I G (by omega), ?_⟩
    rintro h12 ⟨p12, B12⟩
    obtain ⟨y1, y2, y3, y4, y5, y6, y7, y8, y9⟩ := lay Pg Qg hi R7 p12
    refine ⟨y1.1, rfl, r, ?_⟩
    have fz : Fr1 a h12 (sI h12 a 2 (hI h12 a 2 + 1)) := (Fr1.refl _ _).sI _ _
    have ba : ∀ {b : Nat}, BS h12 b → a < b ∨ b + 32 ≤ a := fun s => BS_out s (by rw [y1.1]; decide) (by rw [y1.1]; decide) (by rw [y1.1]; decide) (by rw [y1.1]; decide) (by rw [y1.1]; decide)
    refine ⟨y1, fun j hj b e => ?_, ?_, ?_, ?_, ?_⟩
    · obtain ⟨s1, s2, s3⟩ := y2 j hj b e
      exact ⟨s1.fr fz, s2, s3⟩
    · exact ((pg.frs (S := fun b => b = a ∨ b = a + 1 ∨ (r ≤ b ∧ b < r + 32)) (Or.inl rfl)).trans (y5.mono fun b _ z => Or.inr z)).trans (fz.frs (Or.inl rfl))
    · rcases y7 with z | ⟨z1, z2, z3⟩
      · exact Or.inl (by rw [z, pg.hN])
      · refine Or.inr ⟨by rw [← pg.hN]; exact z1, ?_, z3⟩
        unfold BS at z2 ⊢
        simp only [pg.hK, pg.hR] at z2
        exact z2
    · rw [show nul (sI h12 a 2 (hI h12 a 2 + 1)) a = nul h12 a from rfl, y8]
      exact nul_eq fun j => pg.hR _ _
    · rw [eN, eK]
      refine ⟨l1, ?_, ?_, by omega, fun i hi' => ?_⟩
      · rw [hI_sI, if_neg fun z => absurd z.1 (by decide), y9.hI]; exact e1
      · rw [hI_sI, if_pos ⟨rfl, rfl⟩, y9.hI, e2, nI_1]
      · rcases Nat.lt_or_ge i n' with z | z
        · obtain ⟨i', h1, h2, h3⟩ := old i z
          obtain ⟨b, b1, b2⟩ := a5 i' h1
          have hne : (fi' + i) % 40 ≠ ix := by rw [← ei]; omega
          have W' := WA i' h1
          have g1 : hR g (a + 1) ((fi' + i) % 40) = some b := by rw [h3, pg.hR]; exact b1
          have Ab := y6 _ b (Nat.mod_lt _ (by decide)) hne g1
          have b2g : BR g b t ct nc nf (rn (A i')) (A i') := b2.out hC W'.r24 pg (BS_out b2.s (by rw [P.1]; decide) (by rw [P.1]; decide) (by rw [P.1]; decide) (by rw [P.1]; decide) (by rw [P.1]; decide))
          have b12 := b2g.ac hC W'.r24 (b2g.s.ac fun c q1 q2 => Ab c q1 q2) (fun c q1 q2 _ => Ab c q1 q2)
          refine ⟨b, (y4 _ hne).trans g1, ?_⟩
          rw [h2]
          exact b12.out hC W'.r24 fz (ba b12.s)
        · obtain rfl : i = n' := by omega
          refine ⟨r, by rw [ei]; exact y3, ?_⟩
          rw [new, Row.rnE (by exact ⟨⟨m, I⟩, G, by assumption⟩ : Row ct nc nf nr f)]
          exact B12.out hC h24 fz (ba B12.s)
  refine Cm.of (by decide) (Nat.le_of_ble_eq_true rfl) (vX0_keep_0 ⟨P.1, fun e => ?_, fun e => ?_⟩)
  · have hn : n < 40 := by
      refine Classical.byContradiction fun z => ?_
      obtain rfl : n = 40 := by omega
      rw [a3] at e
      exact absurd e (by decide)
    rw [a2, a3, nI_add, m40 _ (by omega)]
    exact main fi n h (Fr1.refl _ _) a2 a3 a1 hn rfl (if_neg (by omega)) (if_neg (by omega)) (fun i hi => ⟨i, hi, by unfold kaA; rw [if_neg (by omega), if_pos hi], rfl⟩) (by unfold kaA; rw [if_neg (by omega), if_neg (by omega)])
  · have hn : n = 40 := by
      refine Classical.byContradiction fun z => e ?_
      rw [a3]
      exact nI_lt (b := 40) (by omega) (by decide)
    subst hn
    have e1 : hI h a 1 + 1 - (hI h a 1 + 1) / 40 * 40 = nI ((fi + 1) % 40) := by rw [a2, nI_1, m40 _ (by omega)]
    rw [e1]
    have l1 : (fi + 1) % 40 < 40 := Nat.mod_lt _ (by decide)
    have e2 : hI (sI h a 1 (nI ((fi + 1) % 40))) a 1 + hI (sI (sI h a 1 (nI ((fi + 1) % 40))) a 2 39) a 2 = nI ((fi + 1) % 40 + 39) := by
      rw [hI_sI, if_pos ⟨rfl, rfl⟩, hI_sI, if_pos ⟨rfl, rfl⟩, ← nI_add]; rfl
    rw [e2, m40 _ (by omega)]
    refine main ((fi + 1) % 40) 39 _ (((Fr1.refl _ _).sI _ _).sI _ _) ?_ ?_ l1 (by decide) (by omega) rfl rfl (fun i hi => ⟨i + 1, by omega, by unfold kaA; rw [if_pos rfl, if_pos hi], by omega⟩) rfl
    · rw [hI_sI, if_neg fun z => absurd z.1 (by decide), hI_sI, if_pos ⟨rfl, rfl⟩]
    · rw [hI_sI, if_pos ⟨rfl, rfl⟩]; rfl
end ActsK2
