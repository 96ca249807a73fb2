/-! THE CLASS, ALL OF IT: one picture of its cells (LiftBank 0, Reader 1, tape 2, its Bank 3, spare 35, Replay 67, Desk 139; the reference at 177, the law's row at 200) -/
section KSall
variable {l : Launch} {x : CX} {h h' : PH} {nc nf nr fi tl a b : Nat} {t ct rt tp : Nat → Int32} {ow ow' : Nat → Nat} {D D' : DT} {fp : Int32} {I : Option DT} {S : Nat → Prop}
def TA (h : PH) (tl : Nat) (tp : Nat → Int32) : Prop := hI h 1 1 = nI tl ∧ tl ≤ 900 ∧ ∀ i, i < tl → hI h 2 i = tp i
def OW (ow : Nat → Nat) : Prop := ∀ b, b < 169 → ow b < 100
def PIC (h : PH) (ow : Nat → Nat) (t ct : Nat → Int32) (nc nf : Nat) (I : Option DT) : Prop := (hR h 0 5 = none ∧ I = none) ∨ ∃ p, hR h 0 5 = some p ∧ 201 ≤ p ∧ DS h p ∧ AO h (p + 33) ow 200 ∧ ow (p + 1) < 100 ∧ ∀ J, I = some J → ∃ fj, DV h p ow 200 t ct nc nf fj J
def PIF (h : PH) (I : Option DT) : Prop := (I = none ∧ hI h 0 6 = 0) ∨ ∃ J, I = some J ∧ hI h 0 6 = 1
def LT3 (f : Nat → Int32) : Prop := ∃ y, f 3 = nI y ∧ y < 12
/-- what must hold of a desk -/
def DO (ct : Nat → Int32) (nc nf nr : Nat) (D : DT) : Prop := DW ct nc nf D ∧ (∀ i, i < D.2.2.1.1 → inR (D.2.2.1.2.1 i) nr) ∧ LT3 D.1 ∧ (∀ i, i < D.2.1.1 → LT3 (D.2.1.2 i)) ∧ D.2.1.1 ≤ 40
def SO (t ct rt : Nat → Int32) (nc nf nr : Nat) (D : DT) (I : Option DT) : Prop := TD t ct rt nc nf nr ∧ DO ct nc nf nr D ∧ ∀ J, I = some J → DO ct nc nf nr J
def KO (h : PH) (ow : Nat → Nat) (fi : Nat) (t ct rt : Nat → Int32) (nc nf nr : Nat) (D : DT) (tl : Nat) (tp : Nat → Int32) (fp : Int32) (I : Option DT) : Prop := LBS h 0 ∧ RP h 67 t ct rt nc nf nr ∧ DV h 139 ow 100 t ct nc nf fi D ∧ TA h tl tp ∧ hI h 0 1 = fp ∧ OW ow ∧ 201 ≤ hN h ∧ (hK h 200).1 = 104 ∧ PIC h ow t ct nc nf I ∧ PIF h I
def KS (h : PH) (t ct rt : Nat → Int32) (nc nf nr : Nat) (D : DT) (tl : Nat) (tp : Nat → Int32) (fp : Int32) (I : Option DT) : Prop := SO t ct rt nc nf nr D I ∧ ∃ ow fi, KO h ow fi t ct rt nc nf nr D tl tp fp I
theorem AO.hi {T : Nat} (Q : AO h a ow T) (hT : 100 ≤ T) (o : OW ow) (k : (hK h 200).1 = 104) : ∀ i, i < 40 → ∀ b, hR h (a + 1) i = some b → 201 ≤ b := fun i hi b e => by
  obtain ⟨s, _, w⟩ := Q i hi b e
  have h1 := BS_out s (a := 200) (by rw [k]; decide) (by rw [k]; decide) (by rw [k]; decide) (by rw [k]; decide) (by rw [k]; decide)
  have h2 : 169 ≤ b := Nat.le_of_not_lt fun z => by have := o b z; omega
  omega
theorem offA_lo {T : Nat} (Q : AO h a ow T) (hT : 100 ≤ T) (o : OW ow) (k : (hK h 200).1 = 104) (hS : ∀ b, S b → b < 201) (h1 : ¬ S a) (h2 : ¬ S (a + 1)) : offA S h a :=
  ⟨h1, h2, fun i hi b e c c1 c2 z => by have := Q.hi hT o k i hi b e; have := hS c z; omega⟩
theorem PIC.lo (P : PIC h ow t ct nc nf I) (o : OW ow) (k : (hK h 200).1 = 104) (W : ∀ J, I = some J → DO ct nc nf nr J) (p : FrS S h h') (hS : ∀ b, S b → b < 201) (e7 : hR h' 0 5 = hR h 0 5) : PIC h' ow t ct nc nf I := by
  rcases P with ⟨z1, z2⟩ | ⟨p0, z1, z2, z3, z4, z5, z6⟩
  · exact Or.inl ⟨e7.trans z1, z2⟩
  · have fa : offA S h (p0 + 33) := offA_lo z4 (by decide) o k hS (fun z => by have := hS _ z; omega) (fun z => by have := hS _ z; omega)
    refine Or.inr ⟨p0, e7.trans z1, z2, z3.frs p fun b h1 h2 z => by have := hS _ z; omega, z4.frs z3.a p fa fun _ _ => rfl, z5, fun J e => ?_⟩
    obtain ⟨fj, V⟩ := z6 J e
    exact ⟨fj, V.frs (W J e).1 p ⟨fun b h1 h2 z => by have := hS _ z; omega, fa⟩ fun _ _ => rfl⟩
theorem LBS.rk (q : LBS h 0) (K : ∀ b, hK h' b = hK h b) (R : ∀ b k, hR h' b k = hR h b k) : LBS h' 0 := by
  unfold LBS BS at q ⊢
  simp only [K, R]
  exact q
theorem LBS.acs (q : LBS h 0) (A : ∀ b, b < 67 → Ac b h h') : LBS h' 0 := by
  obtain ⟨q1, q2, q3, q4, q5, q6, q7, q8, q9, q10, q11⟩ := q
  have A0 := A 0 (by decide)
  have A1 := A (0 + 1) (by decide)
  exact ⟨by rw [A0.1]; exact q1, by rw [A0.hR]; exact q2, by rw [A1.1]; exact q3, by rw [A1.hR]; exact q4, by rw [(A (0 + 2) (by decide)).1]; exact q5, by rw [A1.hR]; exact q6, q7.ac fun b h1 h2 => A b (by omega), by rw [A0.hR]; exact q8, q9.ac fun b h1 h2 => A b (by omega), by rw [A0.hR]; exact q10, by rw [A0.hR]; exact q11⟩
theorem RP.acs {rp : Nat} (q : RP h rp t ct rt nc nf nr) (hC : nc ≤ 4) (h24 : nr ≤ 24) (A : ∀ b, rp ≤ b → b < rp + 72 → Ac b h h') : RP h' rp t ct rt nc nf nr := by
  obtain ⟨q1, q2, q3, q4⟩ := q
  refine ⟨q1.acs A, q2.ac hC h24 (q2.s.ac fun b h1 h2 => A b (by omega) (by omega)) fun b h1 h2 _ => A b (by omega) (by omega), q3.ac fun b h1 h2 => A b (by omega) (by omega), fun k hk e => ?_⟩
  rw [(A (rp + 65) (by omega) (by omega)).hI] at e
  exact (q4 k hk e).ac fun j h1 h2 => A _ (by omega) (by omega)
theorem TA.acs (q : TA h tl tp) (A1 : Ac 1 h h') (A2 : Ac 2 h h') : TA h' tl tp := ⟨by rw [A1.hI]; exact q.1, q.2.1, fun i hi => by rw [A2.hI]; exact q.2.2 i hi⟩
/-- what lies low changes, the desk doesn't -/
theorem KO.gen (K : KO h ow fi t ct rt nc nf nr D tl tp fp I) (W : SO t ct rt nc nf nr D I) (p : FrS S h h') (hS : ∀ b, S b → b < 201) (dS : ∀ b, 139 ≤ b → b < 177 → ¬ S b) (h168 : (hK h' 200).1 = 104) (L : LBS h' 0) (R : RP h' 67 t ct rt nc nf nr) {tl' : Nat} {tp' : Nat → Int32} {fp' : Int32} (T : TA h' tl' tp') (F : hI h' 0 1 = fp') (e7 : hR h' 0 5 = hR h 0 5) (e8 : hI h' 0 6 = hI h 0 6) : KO h' ow fi t ct rt nc nf nr D tl' tp' fp' I := by
  obtain ⟨_, _, k3, _, _, k6, k7, k8, k9, k10⟩ := K
  have n1 := p.1
  refine ⟨L, R, k3.frs W.2.1.1 p ⟨dS, offA_lo k3.2.1 (by decide) k6 k8 hS (dS _ (by decide) (by decide)) (dS _ (by decide) (by decide))⟩ (fun _ _ => rfl), T, F, k6, by omega, h168, k9.lo k6 k8 W.2.2 p hS e7, ?_⟩
  unfold PIF at k10 ⊢
  rw [e8]
  exact k10
theorem KO.frx (K : KO h ow fi t ct rt nc nf nr D tl tp fp I) (W : SO t ct rt nc nf nr D I) (p : FrX a b h h') (ha : 3 ≤ a) (hb : b ≤ 139) (R : RP h' 67 t ct rt nc nf nr) : KO h' ow fi t ct rt nc nf nr D tl tp fp I := by
  have A0 : Ac 0 h h' := p.ac (by omega)
  exact K.gen W (S := fun c => a ≤ c ∧ c < b) (p.frs fun c h1 h2 => ⟨h1, h2⟩) (fun c z => by omega) (fun c h1 h2 z => by omega) (by rw [p.hK]; exact K.2.2.2.2.2.2.2.1) (K.1.rk p.hK p.hR) R (K.2.2.2.1.acs (p.ac (by omega)) (p.ac (by omega))) (by rw [A0.hI]; exact K.2.2.2.2.1) (A0.hR 5) (A0.hI 6)
theorem KO.spare (K : KO h ow fi t ct rt nc nf nr D tl tp fp I) (W : SO t ct rt nc nf nr D I) (p : FrB 35 h h') : KO h' ow fi t ct rt nc nf nr D tl tp fp I :=
  K.frx W (p.frx (a := 35) (b := 67) (by decide) (by decide)) (by decide) (by decide) (K.2.1.acs W.1.c4 (by have := W.1.r20; omega) fun b h1 h2 => p.ac (by omega))
theorem KO.rep (K : KO h ow fi t ct rt nc nf nr D tl tp fp I) (W : SO t ct rt nc nf nr D I) (p : FrX 100 139 h h') (R : RP h' 67 t ct rt nc nf nr) : KO h' ow fi t ct rt nc nf nr D tl tp fp I :=
  K.frx W p (by decide) (by decide) R
theorem KO.rep1 (K : KO h ow fi t ct rt nc nf nr D tl tp fp I) (W : SO t ct rt nc nf nr D I) (p : FrB 100 h h') : KO h' ow fi t ct rt nc nf nr D tl tp fp I :=
  K.rep W (p.frx (by decide) (by decide)) (K.2.1.frb W.1.c4 (by have := W.1.r20; omega) p)
/-- the reference moves -/
theorem KS.mod (K : KS h t ct rt nc nf nr D tl tp fp I) (p : FrS (fun b => 177 ≤ b ∧ b < 201) h h') (h168 : (hK h' 200).1 = 104) : KS h' t ct rt nc nf nr D tl tp fp I := by
  obtain ⟨W, ow, fi, K⟩ := K
  have n1 := K.2.2.2.2.2.2.1
  have A : ∀ b, b < 177 → Ac b h h' := fun b hb => p.2 b (by omega) (by omega)
  exact ⟨W, ow, fi, K.gen W p (fun b z => z.2) (fun b h1 h2 z => by omega) h168 (K.1.acs fun b hb => A b (by omega)) (K.2.1.acs W.1.c4 (by have := W.1.r20; omega) fun b h1 h2 => A b (by omega)) (K.2.2.2.1.acs (A 1 (by decide)) (A 2 (by decide))) (by rw [(A 0 (by decide)).hI]; exact K.2.2.2.2.1) ((A 0 (by decide)).hR 5) ((A 0 (by decide)).hI 6)⟩
/-! room: what may still be made -/
def pot (c s : Nat) (h : PH) : Nat := c * nul h 172 + (match hR h 0 5 with | none => s + c * 40 | some p => c * nul h (p + 33))
theorem pot_eq (R : ∀ b k, hR h' b k = hR h b k) (c s : Nat) : pot c s h' = pot c s h := by
  have e : ∀ a, nul h' a = nul h a := fun a => nul_eq fun j => R _ j
  unfold pot
  rw [R, e]
  split
  · rfl
  · rw [e]
def KQ (h : PH) (mc ms : Nat) (P : PH → Prop) (h' : PH) : Prop := P h' ∧ (∀ b, 177 ≤ b → b < 201 → Ac b h h') ∧ pot 32 38 h' + mc = pot 32 38 h ∧ pot 359 427 h' + ms = pot 359 427 h ∧ hN h ≤ hN h'
theorem KQ.refl {P : PH → Prop} (p : P h) : KQ h 0 0 P h := ⟨p, fun b _ _ => Ac.refl b h, rfl, rfl, Nat.le_refl _⟩
theorem KQ.frx {P : PH → Prop} (q : P h') (p : FrX a b h h') (hb : b ≤ 177) : KQ h 0 0 P h' := ⟨q, fun c h1 h2 => p.ac (by omega), pot_eq p.hR _ _, pot_eq p.hR _ _, by rw [p.hN]; exact Nat.le_refl _⟩
/-- a call that may throw: 1 and 2 stand for the class's two throws -/
def exN (k : Nat) : String := if k = 1 then "java/util/NoSuchElementException" else "java/lang/IllegalArgumentException"
def exI (_ : Nat) : String := "java/lang/IllegalArgumentException"
def CK (l : Launch) (x : CX) (M : MD) (d : Nat) (a : List Value) (h : PH) (A : Int32 ⊕ Nat) (ex : Nat → String) (P : PH → Prop) : Prop := Cm l x M d 1 6 a h (fun v h' => ∃ r, v = some (.int r) ∧ A = .inl r ∧ P h') (fun c h' => ∃ k, A = .inr k ∧ c = ex k ∧ P h')
theorem DO.w (W : DO ct nc nf nr D) : Row ct nc nf (rn D.1) D.1 := W.1.2.1
theorem KO.L (K : KO h ow fi t ct rt nc nf nr D tl tp fp I) : LBS h 0 := K.1
theorem KO.R (K : KO h ow fi t ct rt nc nf nr D tl tp fp I) : RP h 67 t ct rt nc nf nr := K.2.1
theorem KO.V (K : KO h ow fi t ct rt nc nf nr D tl tp fp I) : DV h 139 ow 100 t ct nc nf fi D := K.2.2.1
theorem KO.B (K : KO h ow fi t ct rt nc nf nr D tl tp fp I) : BR h 140 t ct nc nf (rn D.1) D.1 := K.2.2.1.2.2.2.1
theorem KO.k0 (K : KO h ow fi t ct rt nc nf nr D tl tp fp I) : (hK h 0).1 = 7 := K.1.1
theorem KO.r6 (K : KO h ow fi t ct rt nc nf nr D tl tp fp I) : hR h 0 4 = some 139 := K.1.2.2.2.2.2.2.2.2.2.2
theorem KO.r5 (K : KO h ow fi t ct rt nc nf nr D tl tp fp I) : hR h 0 3 = some 67 := K.1.2.2.2.2.2.2.2.2.2.1
theorem KO.r3 (K : KO h ow fi t ct rt nc nf nr D tl tp fp I) : hR h 0 2 = some 35 := K.1.2.2.2.2.2.2.2.1
theorem KO.b2 (K : KO h ow fi t ct rt nc nf nr D tl tp fp I) : BS h 35 := K.1.2.2.2.2.2.2.2.2.1
theorem KO.rr (K : KO h ow fi t ct rt nc nf nr D tl tp fp I) : hR h 0 0 = some 1 := K.1.2.1
theorem KO.kr (K : KO h ow fi t ct rt nc nf nr D tl tp fp I) : (hK h 1).1 = 4 := K.1.2.2.1
theorem KO.kd (K : KO h ow fi t ct rt nc nf nr D tl tp fp I) : (hK h 139).1 = 3 := K.2.2.1.1.1
theorem KO.r0 (K : KO h ow fi t ct rt nc nf nr D tl tp fp I) : hR h 139 0 = some 140 := K.2.2.1.1.2.1
theorem KO.ra (K : KO h ow fi t ct rt nc nf nr D tl tp fp I) : hR h 139 1 = some 172 := K.2.2.1.1.2.2.1
theorem KO.rf (K : KO h ow fi t ct rt nc nf nr D tl tp fp I) : hR h 139 5 = some 176 ∧ hK h 176 = (100, 3) := ⟨K.2.2.1.1.2.2.2.2.2.2.2.1, K.2.2.1.1.2.2.2.2.2.2.2.2.1⟩
end KSall
