/-! THE CLASS: Desk. d Desk, d + 1 now, d + 33 acts, d + 34 its rows, d + 35, d + 36 notes, d + 37 status -/
section Desk
variable {l : Launch} {x : CX} {h h' g : PH} {d d' o T T' nc nf nr m c n r i fi : Nat} {f t ct rt : Nat → Int32} {ow ow' : Nat → Nat} {S : Nat → Prop} {D D' : DT}
def DS (h : PH) (d : Nat) : Prop := (hK h d).1 = 3 ∧ hR h d 0 = some (d + 1) ∧ hR h d 1 = some (d + 33) ∧ hR h d 2 = some (d + 35) ∧ hK h (d + 35) = (100, 8) ∧ hR h d 3 = some (d + 36) ∧ hK h (d + 36) = (100, 8) ∧ hR h d 5 = some (d + 37) ∧ hK h (d + 37) = (100, 3) ∧ AS h (d + 33) ∧ BS h (d + 1) ∧ d + 38 ≤ hN h
theorem DS.a (q : DS h d) : AS h (d + 33) := q.2.2.2.2.2.2.2.2.2.1
theorem DS.b (q : DS h d) : BS h (d + 1) := q.2.2.2.2.2.2.2.2.2.2.1
theorem DS.nx (q : DS h d) : d + 38 ≤ hN h := q.2.2.2.2.2.2.2.2.2.2.2
theorem DS.frx {a b : Nat} (q : DS h d) (p : FrX a b h h') : DS h' d := by
  unfold DS AS BS at q ⊢
  simp only [p.hK, p.hR, p.hN]
  exact q
theorem DS.frs (q : DS h d) (p : FrS S h h') (e : ∀ b, d ≤ b → b < d + 38 → ¬ S b) : DS h' d := by
  have n := q.nx
  have A : ∀ b, d ≤ b → b < d + 38 → Ac b h h' := fun b h1 h2 => p.2 b (by omega) (e b h1 h2)
  obtain ⟨q1, q2, q3, q4, q5, q6, q7, q8, q9, q10, q11, q12⟩ := q
  have A0 := A d (by omega) (by omega)
  refine ⟨by rw [A0.1]; exact q1, by rw [A0.hR]; exact q2, by rw [A0.hR]; exact q3, by rw [A0.hR]; exact q4, by rw [(A (d + 35) (by omega) (by omega)).1]; exact q5, by rw [A0.hR]; exact q6, by rw [(A (d + 36) (by omega) (by omega)).1]; exact q7, by rw [A0.hR]; exact q8, by rw [(A (d + 37) (by omega) (by omega)).1]; exact q9, ⟨?_, ?_, ?_, ?_⟩, q11.ac fun b h1 h2 => A b (by omega) (by omega), by have := p.1; omega⟩
  · rw [(A (d + 33) (by omega) (by omega)).1]; exact q10.1
  · rw [(A (d + 33) (by omega) (by omega)).hR]; exact q10.2.1
  · rw [(A (d + 33 + 1) (by omega) (by omega)).1]; exact q10.2.2.1
  · have := p.1; have := q10.2.2.2; omega
/-- what a desk must have -/
def DW (ct : Nat → Int32) (nc nf : Nat) (D : DT) : Prop := nc ≤ 4 ∧ Row ct nc nf (rn D.1) D.1 ∧ (∀ i, i < D.2.1.1 → Row ct nc nf (rn (D.2.1.2 i)) (D.2.1.2 i)) ∧ D.2.2.1.1 ≤ 8
/-- notes and status -/
def DN (h : PH) (d : Nat) (D : DT) : Prop := hI h d 4 = nI D.2.2.1.1 ∧ (∀ i, i < D.2.2.1.1 → hI h (d + 35) i = D.2.2.1.2.1 i ∧ hI h (d + 36) i = D.2.2.1.2.2 i) ∧ ∀ i, i < 3 → hI h (d + 37) i = D.2.2.2 i
/-- a Desk stands for D; its rows are of T -/
def DV (h : PH) (d : Nat) (ow : Nat → Nat) (T : Nat) (t ct : Nat → Int32) (nc nf fi : Nat) (D : DT) : Prop := DS h d ∧ AO h (d + 33) ow T ∧ AR h (d + 33) t ct nc nf fi D.2.1.1 D.2.1.2 ∧ BR h (d + 1) t ct nc nf (rn D.1) D.1 ∧ DN h d D ∧ ∀ i, i < 40 → ow (d + 1) ≠ T + i
def offD (S : Nat → Prop) (h : PH) (d : Nat) : Prop := (∀ b, d ≤ b → b < d + 38 → ¬ S b) ∧ offA S h (d + 33)
theorem DN.ac (q : DN h d D) (a0 : ∀ k, hI h' d k = hI h d k) (a1 : ∀ k, hI h' (d + 35) k = hI h (d + 35) k) (a2 : ∀ k, hI h' (d + 36) k = hI h (d + 36) k) (a3 : ∀ k, hI h' (d + 37) k = hI h (d + 37) k) : DN h' d D := by
  unfold DN at q ⊢
  rw [a0]
  refine ⟨q.1, fun i hi => ?_, fun i hi => ?_⟩
  · rw [a1, a2]; exact q.2.1 i hi
  · rw [a3]; exact q.2.2 i hi
theorem DV.frs (q : DV h d ow T t ct nc nf fi D) (W : DW ct nc nf D) (p : FrS S h h') (e : offD S h d) (eo : ∀ b, b + 32 ≤ hN h → ow' b = ow b) : DV h' d ow' T t ct nc nf fi D := by
  obtain ⟨q1, q2, q3, q4, q5, q6⟩ := q
  have n := q1.nx
  have A : ∀ b, d ≤ b → b < d + 38 → Ac b h h' := fun b h1 h2 => p.2 b (by omega) (e.1 b h1 h2)
  exact ⟨q1.frs p e.1, q2.frs q1.a p e.2 eo, q3.frs q2 q1.a W.1 W.2.2.1 p e.2, q4.frs W.1 W.2.1.r24 p (by omega) fun b h1 h2 => e.1 b (by omega) (by omega), q5.ac (A d (by omega) (by omega)).hI (A (d + 35) (by omega) (by omega)).hI (A (d + 36) (by omega) (by omega)).hI (A (d + 37) (by omega) (by omega)).hI, fun i hi => by rw [eo _ (by omega)]; exact q6 i hi⟩
theorem k_beginDesk (P : DS h d) (Q : AO h (d + 33) ow T) (to : ∀ i, i < 40 → ow (d + 1) ≠ T + i) (B : BT h o t ct rt nc nf nr) (TT : TD t ct rt nc nf nr) (ho : o + 32 ≤ d + 1 ∨ d + 33 ≤ o) {s : Nat → Int32} (hs : ∀ i, i < 3 → hI h (d + 37) i = s i) {A : Nat → Nat → Int32} {u v : Nat → Int32} : CV l x mX3_begin 2 0 0 [.ref d, .ref o] h (fun h' => FrX d (d + 38) h h' ∧ DV h' d ow T t ct nc nf 0 (bgF t ct rt nc nr, (0, A), (0, u, v), s)) := by
  have hC := TT.c4
  have h20 := TT.r20
  have W := Row_bg TT
  obtain ⟨⟨m, I⟩, G, _⟩ := id W
  refine Cm.of (by decide) (Nat.le_of_ble_eq_true rfl) (vX3_begin_0 ⟨P.1, d + 1, P.2.1, P.b.k, _, k_copyBank B P.b I G (by omega), ?_⟩)
  rintro h7 ⟨p7, B7⟩
  have x7 : FrX d (d + 38) h h7 := p7.frx (by omega) (by omega)
  have P7 := P.frx x7
  have Q7 : AO h7 (d + 33) ow T := fun i hi b e => by
    rw [p7.hR] at e
    exact ⟨(Q i hi b e).1.frb p7, by rw [x7.hN]; exact (Q i hi b e).2.1, (Q i hi b e).2.2⟩
  refine ⟨P7.1, d + 33, P7.2.2.1, P7.a.1, _, k_clearActs (t := t) (ct := ct) (nc := nc) (nf := nf) (A := A) P7.a Q7, ?_⟩
  rintro h14 ⟨p14, a14, q14, r14⟩
  have x14 : FrX d (d + 38) h7 h14 := p14.frx (by omega) (by omega)
  have P14 := P7.frx x14
  have fz : Fr1 d h14 (sI h14 d 4 0) := (Fr1.refl _ _).sI _ _
  refine ⟨P14.1, rfl, (x7.trans x14).trans (fz.frx (by omega) (by omega)), P14.frx (fz.frx (a := d) (b := d + 38) (by omega) (by omega)), fun i hi b e => ⟨(q14 i hi b e).1.fr fz, (q14 i hi b e).2⟩, ?_, ?_, ?_, to⟩
  · exact ⟨by decide, by rw [fz.hI (by omega)]; exact r14.2.1, by rw [fz.hI (by omega)]; exact r14.2.2.1, Nat.zero_le _, fun i hi => absurd hi (Nat.not_lt_zero _)⟩
  · have b14 := (B7.out hC (by omega) p14 (by omega)).out hC (by omega) fz (by omega)
    rw [W.rnE]
    exact b14
  · refine ⟨by rw [hI_sI, if_pos ⟨rfl, rfl⟩]; rfl, fun i hi => absurd hi (Nat.not_lt_zero _), fun i hi => ?_⟩
    rw [fz.hI (by omega), p14.hI (by omega), (p7.ac (b := d + 37) (by omega)).hI]
    exact hs i hi
end Desk
