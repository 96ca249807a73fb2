/-! THE CLASS: Acts, takeBack and clear; what is kept stays when others change -/
section ActsK3
variable {l : Launch} {x : CX} {h h' g : PH} {a o T nc nf nr m c n r i fi : Nat} {f t ct rt : Nat → Int32} {ow ow' : Nat → Nat} {A : Nat → Nat → Int32} {S : Nat → Prop}
theorem AS.out (P : AS h a) (B : BS h o) : (a < o ∨ o + 32 ≤ a) ∧ (a + 1 < o ∨ o + 32 ≤ a + 1) := ⟨BS_out B (by rw [P.1]; decide) (by rw [P.1]; decide) (by rw [P.1]; decide) (by rw [P.1]; decide) (by rw [P.1]; decide), BS_out B (by rw [P.2.2.1]; decide) (by rw [P.2.2.1]; decide) (by rw [P.2.2.1]; decide) (by rw [P.2.2.1]; decide) (by rw [P.2.2.1]; decide)⟩
/-- whether S leaves an Acts alone -/
def offA (S : Nat → Prop) (h : PH) (a : Nat) : Prop := ¬ S a ∧ ¬ S (a + 1) ∧ ∀ i, i < 40 → ∀ b, hR h (a + 1) i = some b → ∀ c, b ≤ c → c < b + 32 → ¬ S c
theorem AS.frs (P : AS h a) (p : FrS S h h') (d : offA S h a) : AS h' a := by
  have A1 := p.2 a (by have := P.2.2.2; omega) d.1
  have A2 := p.2 (a + 1) P.2.2.2 d.2.1
  exact ⟨by rw [A1.1]; exact P.1, by rw [A1.hR]; exact P.2.1, by rw [A2.1]; exact P.2.2.1, by have := p.1; have := P.2.2.2; omega⟩
theorem AO.frs (Q : AO h a ow T) (P : AS h a) (p : FrS S h h') (d : offA S h a) (e : ∀ b, b + 32 ≤ hN h → ow' b = ow b) : AO h' a ow' T := fun i hi b eb => by
  rw [(p.2 (a + 1) P.2.2.2 d.2.1).hR] at eb
  obtain ⟨q1, q2, q3⟩ := Q i hi b eb
  exact ⟨q1.frs p q2 fun c h1 h2 => d.2.2 i hi b eb c h1 h2, by have := p.1; omega, (e b q2).trans q3⟩
theorem AR.frs (R : AR h a t ct nc nf fi n A) (Q : AO h a ow T) (P : AS h a) (hC : nc ≤ 4) (WA : ∀ i, i < n → Row ct nc nf (rn (A i)) (A i)) (p : FrS S h h') (d : offA S h a) : AR h' a t ct nc nf fi n A := by
  obtain ⟨a1, a2, a3, a4, a5⟩ := R
  have A1 := p.2 a (by have := P.2.2.2; omega) d.1
  refine ⟨a1, by rw [A1.hI]; exact a2, by rw [A1.hI]; exact a3, a4, fun i hi => ?_⟩
  obtain ⟨b, b1, b2⟩ := a5 i hi
  have hm : (fi + i) % 40 < 40 := Nat.mod_lt _ (by decide)
  exact ⟨b, by rw [(p.2 (a + 1) P.2.2.2 d.2.1).hR]; exact b1, b2.frs hC (WA i hi).r24 p (Q _ hm b b1).2.1 fun c h1 h2 => d.2.2 _ hm b b1 c h1 h2⟩
theorem nul_frs (P : AS h a) (p : FrS S h h') (d : offA S h a) : nul h' a = nul h a := nul_eq fun j => (p.2 (a + 1) P.2.2.2 d.2.1).hR j
/-- a Bank of another's leaves an Acts alone -/
theorem off_bank (Q : AO h a ow T) (P : AS h a) (B : BS h o) (to : ∀ i, i < 40 → ow o ≠ T + i) : offA (fun c => o ≤ c ∧ c < o + 32) h a := by
  have h1 := P.out B
  refine ⟨by omega, by omega, fun i hi b eb c q1 q2 => ?_⟩
  obtain ⟨s1, s2, s3⟩ := Q i hi b eb
  have ne : b ≠ o := fun z => to i hi (by rw [← z]; exact s3)
  have := BS_sep s1 B ne
  omega
theorem k_takeBack (O : XN x) (P : AS h a) (Q : AO h a ow T) (R : AR h a t ct nc nf fi n A) (hC : nc ≤ 4) (WA : ∀ i, i < n → Row ct nc nf (rn (A i)) (A i)) (B : BS h o) (to : ∀ i, i < 40 → ow o ≠ T + i) : CI l x mX0_takeBack 4 0 0 [.ref a, .ref o] h (fun v h' => (n = 0 ∧ v = 0 ∧ h' = h) ∨ (0 < n ∧ v = 1 ∧ FrB o (sI h a 2 (nI (n - 1))) h' ∧ BR h' o t ct nc nf (rn (A (n - 1))) (A (n - 1)) ∧ AS h' a ∧ AO h' a ow T ∧ AR h' a t ct nc nf fi (n - 1) A)) := by
  have R0 := R
  obtain ⟨a1, a2, a3, a4, a5⟩ := R
  refine Cm.of (by decide) (Nat.le_of_ble_eq_true rfl) (vX0_takeBack_0 ⟨P.1, fun e => ?_, fun e => ⟨Or.inl rfl, _, rfl, Or.inl ⟨?_, rfl, rfl⟩⟩⟩)
  · have hn : 0 < n := Nat.pos_of_ne_zero fun z => e (by rw [a3, z]; rfl)
    obtain ⟨k, rfl⟩ : ∃ k, n = k + 1 := ⟨n - 1, by omega⟩
    have e1 : hI h a 2 - 1 = nI k := by rw [a3, ← nI_1]; exact Int32.add_sub_cancel _ _
    rw [e1, hI_sI, if_pos ⟨rfl, rfl⟩, a2, nI_add, m40 _ (by omega)]
    have fz : Fr1 a h (sI h a 2 (nI k)) := (Fr1.refl _ _).sI _ _
    have hx : (fi + k) % 40 < 40 := Nat.mod_lt _ (by decide)
    obtain ⟨b, b1, b2⟩ := a5 k (by omega)
    have Wk := WA k (by omega)
    have Pg : AS (sI h a 2 (nI k)) a := P
    have Qg : AO (sI h a 2 (nI k)) a ow T := fun i hi b e => ⟨(Q i hi b e).1.fr fz, (Q i hi b e).2⟩
    have ec : cst (sI h a 2 (nI k)) a ((fi + k) % 40) = 0 := cst_s b1
    refine ⟨_, _, _, by rw [ec]; omega, by rw [ec]; omega, k_rowAt O Pg Qg hx, ?_⟩
    intro r h7 R7
    have er : r = b ∧ h7 = sI h a 2 (nI k) := by
      rcases R7.2.2.2.2.1 with ⟨z, z2⟩ | ⟨z, _⟩
      · exact ⟨Option.some.inj (z.symm.trans b1), z2⟩
      · rw [show hR (sI h a 2 (nI k)) (a + 1) ((fi + k) % 40) = some b from b1] at z; cases z
    obtain ⟨rfl, rfl⟩ := er
    have Bg := B.fr fz
    obtain ⟨⟨m, I⟩, G, _⟩ := id Wk
    have rg : BR (sI h a 2 (nI k)) r t ct nc nf (rn (A k)) (A k) := b2.out hC Wk.r24 fz (P.out b2.s).1
    have ne : o ≠ r := fun z => to _ hx (by rw [z]; exact (Q _ hx r b1).2.2)
    have sp := BS_sep Bg rg.s ne
    refine ⟨Bg.k, _, k_copyBank rg Bg I G (by omega), ?_⟩
    rintro h12 ⟨p12, B12⟩
    have d := off_bank Qg Pg Bg to
    have ps := p12.frs (S := fun c => o ≤ c ∧ c < o + 32) (fun c h1 h2 => ⟨h1, h2⟩)
    have Rg : AR (sI h a 2 (nI k)) a t ct nc nf fi k A := by
      refine ⟨a1, ?_, ?_, by omega, fun i hi => ?_⟩
      · rw [hI_sI, if_neg fun z => absurd z.1 (by decide)]; exact a2
      · rw [hI_sI, if_pos ⟨rfl, rfl⟩]
      · obtain ⟨b', c1, c2⟩ := a5 i (by omega)
        exact ⟨b', c1, c2.out hC (WA i (by omega)).r24 fz (P.out c2.s).1⟩
    exact ⟨Or.inr rfl, _, rfl, Or.inr ⟨by omega, rfl, p12, B12, Pg.frs ps d, Qg.frs Pg ps d (fun _ _ => rfl), Rg.frs Qg Pg hC (fun i hi => WA i (by omega)) ps d⟩⟩
  · rw [a3] at e
    refine Classical.byContradiction fun z => ?_
    have := nI_eq (a := n) (b := 0) (by omega) (by omega)
    exact z (this.mp e)
theorem k_clearActs (P : AS h a) (Q : AO h a ow T) : CV l x mX0_clear 0 0 0 [.ref a] h (fun h' => Fr1 a h h' ∧ AS h' a ∧ AO h' a ow T ∧ AR h' a t ct nc nf 0 0 A) := by
  have fz : Fr1 a h (sI (sI h a 1 0) a 2 0) := ((Fr1.refl _ _).sI _ _).sI _ _
  exact Cm.of (by decide) (Nat.le_of_ble_eq_true rfl) (vX0_clear_0 ⟨P.1, rfl, fz, P, fun i hi b e => ⟨(Q i hi b e).1.fr fz, (Q i hi b e).2⟩, by decide, by rw [hI_sI, if_neg fun z => absurd z.1 (by decide), hI_sI, if_pos ⟨rfl, rfl⟩]; rfl, by rw [hI_sI, if_pos ⟨rfl, rfl⟩]; rfl, by decide, fun i hi => absurd hi (Nat.not_lt_zero _)⟩)
end ActsK3
