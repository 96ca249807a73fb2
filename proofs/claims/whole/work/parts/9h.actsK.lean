/-! THE CLASS: Acts. a: the Acts, a + 1 its rows -/
theorem BS_sep {h : PH} {o p : Nat} (S : BS h o) (P : BS h p) (ne : o ≠ p) : o + 32 ≤ p ∨ p + 32 ≤ o := by
  have key : ∀ {o p : Nat}, BS h o → BS h p → o < p → o + 32 ≤ p := by
    intro o p S P lt
    refine Classical.byContradiction fun c => ?_
    have kp := P.k
    obtain ⟨k, rfl⟩ : ∃ k, p = o + k := ⟨p - o, by omega⟩
    rcases Nat.lt_or_ge k 4 with h4 | h4
    · rcases (show k = 1 ∨ k = 2 ∨ k = 3 by omega) with rfl | rfl | rfl
      · rw [S.lk] at kp; exact absurd kp (by decide)
      · rw [S.pk] at kp; exact absurd kp (by decide)
      · rw [S.tk] at kp; exact absurd kp (by decide)
    · rcases Nat.lt_or_ge k 8 with h8 | h8
      · have := (S.lc (k - 4) (by omega)).2
        rw [show o + 4 + (k - 4) = o + k by omega, kp] at this
        exact absurd this (by decide)
      · have := (S.pr (k - 8) (by omega)).2
        rw [show o + 8 + (k - 8) = o + k by omega, kp] at this
        exact absurd this (by decide)
  rcases Nat.lt_or_gt_of_ne ne with q | q
  · exact Or.inl (key S P q)
  · exact Or.inr (key P S q)
/-- a cell of no Bank's kinds lies in no Bank -/
theorem BS_out {h : PH} {o a : Nat} (S : BS h o) (k1 : (hK h a).1 ≠ 1) (k2 : (hK h a).1 ≠ 2) (k6 : (hK h a).1 ≠ 6) (k5 : (hK h a).1 ≠ 105) (k7 : (hK h a).1 ≠ 106) : a < o ∨ o + 32 ≤ a := by
  refine Classical.byContradiction fun c => ?_
  obtain ⟨k, rfl⟩ : ∃ k, a = o + k := ⟨a - o, by omega⟩
  rcases Nat.lt_or_ge k 4 with h4 | h4
  · rcases (show k = 0 ∨ k = 1 ∨ k = 2 ∨ k = 3 by omega) with rfl | rfl | rfl | rfl
    · exact k1 S.k
    · exact k5 (by rw [S.lk])
    · exact k7 (by rw [S.pk])
    · exact k2 S.tk
  · rcases Nat.lt_or_ge k 8 with h8 | h8
    · have := (S.lc (k - 4) (by omega)).2
      rw [show o + 4 + (k - 4) = o + k by omega] at this
      exact k2 this
    · have := (S.pr (k - 8) (by omega)).2
      rw [show o + 8 + (k - 8) = o + k by omega] at this
      exact k6 this
/-- nothing changed but where S holds, and what is new -/
def FrS (S : Nat → Prop) (h h' : PH) : Prop := hN h ≤ hN h' ∧ ∀ b, b < hN h → ¬ S b → Ac b h h'
theorem FrS.refl (S : Nat → Prop) (h : PH) : FrS S h h := ⟨Nat.le_refl _, fun b _ _ => Ac.refl b h⟩
theorem FrS.trans {S : Nat → Prop} {h1 h2 h3 : PH} (p : FrS S h1 h2) (q : FrS S h2 h3) : FrS S h1 h3 := ⟨Nat.le_trans p.1 q.1, fun b hb hs => (p.2 b hb hs).trans (q.2 b (Nat.lt_of_lt_of_le hb p.1) hs)⟩
theorem FrS.mono {S S' : Nat → Prop} {h h' : PH} (p : FrS S h h') (e : ∀ b, b < hN h → S b → S' b) : FrS S' h h' := ⟨p.1, fun b hb hs => p.2 b hb fun z => hs (e b hb z)⟩
theorem FrX.frs {S : Nat → Prop} {a b : Nat} {h h' : PH} (p : FrX a b h h') (e : ∀ c, a ≤ c → c < b → S c) : FrS S h h' := ⟨by rw [p.hN]; exact Nat.le_refl _, fun c _ hs => p.ac (by
  refine Classical.byContradiction fun z => hs (e c ?_ ?_) <;> omega)⟩
theorem FrB.frs {S : Nat → Prop} {o : Nat} {h h' : PH} (p : FrB o h h') (e : ∀ c, o ≤ c → c < o + 32 → S c) : FrS S h h' := (p.frx (Nat.le_refl _) (Nat.le_refl _)).frs e
theorem Fr1.frs {S : Nat → Prop} {a : Nat} {h h' : PH} (p : Fr1 a h h') (e : S a) : FrS S h h' := ⟨by rw [p.hN]; exact Nat.le_refl _, fun c _ hs => p.ac fun z => hs (z ▸ e)⟩
theorem BR.frs {S : Nat → Prop} {h h' : PH} {o nc nf nr : Nat} {t ct f : Nat → Int32} (q : BR h o t ct nc nf nr f) (hC : nc ≤ 4) (h24 : nr ≤ 24) (p : FrS S h h') (e : o + 32 ≤ hN h) (d : ∀ b, o ≤ b → b < o + 32 → ¬ S b) : BR h' o t ct nc nf nr f := q.ac hC h24 (q.s.ac fun b h1 h2 => p.2 b (by omega) (d b h1 h2)) (fun b h1 h2 _ => p.2 b (by omega) (d b h1 h2))
theorem BS.frs {S : Nat → Prop} {h h' : PH} {o : Nat} (q : BS h o) (p : FrS S h h') (e : o + 32 ≤ hN h) (d : ∀ b, o ≤ b → b < o + 32 → ¬ S b) : BS h' o := q.ac fun b h1 h2 => p.2 b (by omega) (d b h1 h2)
section ActsK
variable {l : Launch} {x : CX} {h h' : PH} {a o T nc nf nr m c n : Nat} {f t ct rt : Nat → Int32} {ow : Nat → Nat} {A : Nat → Nat → Int32}
/-- the Acts' own cells -/
def AS (h : PH) (a : Nat) : Prop := (hK h a).1 = 0 ∧ hR h a 0 = some (a + 1) ∧ hK h (a + 1) = (107, 40) ∧ a + 1 < hN h
/-- its rows' Banks; ow b: whose the Bank b is -/
def AO (h : PH) (a : Nat) (ow : Nat → Nat) (T : Nat) : Prop := ∀ i, i < 40 → ∀ b, hR h (a + 1) i = some b → BS h b ∧ b + 32 ≤ hN h ∧ ow b = T + i
/-- whether a row is still to be made -/
def cst (h : PH) (a i : Nat) : Nat := match hR h (a + 1) i with | none => 1 | some _ => 0
theorem cst_n {i : Nat} (e : hR h (a + 1) i = none) : cst h a i = 1 := by unfold cst; rw [e]
theorem cst_s {i b : Nat} (e : hR h (a + 1) i = some b) : cst h a i = 0 := by unfold cst; rw [e]
/-- what rowAt answers -/
def RA (h : PH) (a i r : Nat) (h' : PH) : Prop := BS h' r ∧ r + 32 ≤ hN h' ∧ hR h' (a + 1) i = some r ∧ hN h ≤ hN h' ∧ ((hR h (a + 1) i = some r ∧ h' = h) ∨ (hR h (a + 1) i = none ∧ r = hN h)) ∧ hK h' (a + 1) = hK h (a + 1) ∧ (∀ j, j ≠ i → hR h' (a + 1) j = hR h (a + 1) j) ∧ ∀ b, b < hN h → b ≠ a + 1 → Ac b h h'
theorem k_rowAt {i : Nat} (O : XN x) (P : AS h a) (Q : AO h a ow T) (hi : i < 40) : CA l x mX0_rowAt 3 (32 * cst h a i) (359 * cst h a i) [.ref a, .int (nI i)] h (fun r h' => RA h a i r h') := by
  refine Cm.of (by decide) (Nat.le_of_ble_eq_true rfl) (vX0_rowAt_0 ?_)
  rw [nI_clamp (by omega)]
  have vi : vp_in (nI i) (hK h (a + 1)).2 := by rw [P.2.2.1]; exact vp_in_nI (by omega) (by decide)
  refine ⟨P.1, a + 1, P.2.1, by rw [P.2.2.1], vi, fun b e => ⟨_, rfl, ?_⟩, fun e => ?_⟩
  · obtain ⟨q1, q2, q3⟩ := Q i hi b e
    exact ⟨q1, q2, e, Nat.le_refl _, Or.inl ⟨e, rfl⟩, rfl, fun _ _ => rfl, fun b _ _ => Ac.refl b h⟩
  · rw [cst_n e]
    refine ⟨by omega, by omega, ?_⟩
    rintro h10 rfl
    refine ⟨31, 343, _, by omega, by omega, k_initBank O (o := hN h) (by rw [nw_K]) rfl, ?_⟩
    rintro h15 ⟨n15, a15, s15, _⟩
    have A15 : ∀ b, b < hN h → Ac b h h15 := fun b hb => (nw_Ac (by omega)).trans (a15 b hb)
    have Aa := A15 a (by have := P.2.2.2; omega)
    have Ar := A15 (a + 1) P.2.2.2
    refine ⟨by rw [Aa.1]; exact P.1, a + 1, by rw [Aa.hR]; exact P.2.1, by rw [Ar.1, P.2.2.1], by rw [Ar.1]; exact vi, s15.k, _, rfl, ?_⟩
    refine ⟨s15.ac fun b h1 h2 => sR_Ac (by have := P.2.2.2; omega), by show hN h + 32 ≤ hN h15; omega, sR_at _ _ _ _, by show hN h ≤ hN h15; omega, Or.inr ⟨e, rfl⟩, Ar.1, fun j hj => (sR_ne _ _ _ hj).trans (Ar.hR j), fun b hb hne => (A15 b hb).trans (sR_Ac hne)⟩
end ActsK
