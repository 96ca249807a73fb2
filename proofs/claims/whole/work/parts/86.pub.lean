/-! THE REFERENCE'S FACE: what a call may leave changed; small tests -/
def SG (P : Nat → Nat → Prop) (g h' : PH) : Prop := h'.1 = g.1 ∧ h'.2.1 = g.2.1 ∧ h'.2.2.2 = g.2.2.2 ∧ ∀ b j, ¬ P b j → hI h' b j = hI g b j
def scr (mo b j : Nat) : Prop := b = mo + 2 ∨ b = mo + 11 ∨ b = mo + 12 ∨ b = mo + 16 ∨ b = mo + 17 ∨ (b = mo ∧ (j = 1 ∨ j = 29 ∨ j = 30 ∨ j = 32))
theorem SG.refl (P : Nat → Nat → Prop) (g : PH) : SG P g g := ⟨rfl, rfl, rfl, fun _ _ _ => rfl⟩
theorem SG.trans {P : Nat → Nat → Prop} {h1 h2 h3 : PH} (a : SG P h1 h2) (b : SG P h2 h3) : SG P h1 h3 := ⟨b.1.trans a.1, b.2.1.trans a.2.1, b.2.2.1.trans a.2.2.1, fun c j hc => (b.2.2.2 c j hc).trans (a.2.2.2 c j hc)⟩
theorem SG.hK {P : Nat → Nat → Prop} {g h' : PH} (a : SG P g h') (b : Nat) : hK h' b = hK g b := congrFun a.2.1 b
theorem SG.hR {P : Nat → Nat → Prop} {g h' : PH} (a : SG P g h') (b j : Nat) : hR h' b j = hR g b j := congrFun (congrFun (congrArg (fun q => q.2.2) a.2.2.1) b) j
theorem SG.mw {P : Nat → Nat → Prop} {mo : Nat} {g h' : PH} (a : SG P g h') (w : MW mo g) : MW mo h' := by
  obtain ⟨q1, q2, q3, q4, q5⟩ := w
  refine ⟨?_, fun q hq => ?_, ?_, ?_, fun j hj => ?_⟩
  · rw [a.hK]; exact q1
  · rw [a.hR, a.hK]; exact q2 q hq
  · rw [a.hR]; exact q3
  · rw [a.hK]; exact q4
  · rw [a.hR]; exact q5 j hj
theorem SG.sI {P : Nat → Nat → Prop} {g : PH} {a k : Nat} {v : Int32} (h : P a k) : SG P g (sI g a k v) := ⟨rfl, rfl, rfl, fun b j hb => if_neg fun e => hb (by rw [e.1, e.2]; exact h)⟩
theorem SB.sg {S : List Nat} {mo : Nat} {g h' : PH} (a : SB S mo g h') (hS : ∀ s ∈ S, s = 2 ∨ s = 11 ∨ s = 12 ∨ s = 16 ∨ s = 17) : SG (scr mo) g h' := ⟨a.1, a.2.1, a.2.2.1, fun b j hb => a.2.2.2 b (fun s hs e => hb (by
  unfold scr
  rcases hS s hs with z | z | z | z | z <;> subst z <;> simp [e])) j⟩
theorem SG.rowE {mo : Nat} {g h' : PH} (a : SG (scr mo) g h') {s : Nat} (hs : s < 23) (h0 : 0 < s) (h2 : s ≠ 2) (h11 : s ≠ 11) (h12 : s ≠ 12) (h16 : s ≠ 16) (h17 : s ≠ 17) (j : Nat) : hI h' (mo + s) j = hI g (mo + s) j := a.2.2.2 _ j (by unfold scr; omega)
theorem SG.fldE {mo : Nat} {g h' : PH} (a : SG (scr mo) g h') {j : Nat} (h1 : j ≠ 1) (h29 : j ≠ 29) (h30 : j ≠ 30) (h32 : j ≠ 32) : hI h' mo j = hI g mo j := a.2.2.2 _ j (by unfold scr; omega)
theorem RX.sg {mo : Nat} {t ct rt : Nat → Int32} {g h' : PH} (w : RX mo t ct rt g) (a : SG (scr mo) g h') : RX mo t ct rt h' :=
  ⟨⟨a.mw w.1.1, fun k => (a.rowE (by decide) (by decide) (by decide) (by decide) (by decide) (by decide) (by decide) k).trans (w.1.2.1 k), fun k => (a.rowE (by decide) (by decide) (by decide) (by decide) (by decide) (by decide) (by decide) k).trans (w.1.2.2 k)⟩, fun k => (a.rowE (by decide) (by decide) (by decide) (by decide) (by decide) (by decide) (by decide) k).trans (w.2 k)⟩
theorem NR.s1 {mo : Nat} {g : PH} {f : Nat → Int32} {k : Nat} {v : Int32} (q : NR mo g f) : NR mo (sI g mo k v) f := fun j hj => (gIa g k j v (by omega)).trans (q j hj)
/-- a place below n -/
def inR (v : Int32) (n : Nat) : Prop := ∃ c, c < n ∧ v = nI c
theorem inR_iff {v : Int32} {n : Nat} (hn : n < 2 ^ 31) : (¬ v < 0 ∧ ¬ nI n ≤ v) ↔ inR v n := by
  constructor
  · rintro ⟨h1, h2⟩
    obtain ⟨j, hj, rfl⟩ := nI_of h1
    exact ⟨j, Nat.lt_of_not_le fun z => h2 (nI_le z hj), rfl⟩
  · rintro ⟨c, hc, rfl⟩
    exact ⟨nI_pos (by omega), nI_ge hc hn⟩
theorem inR_in {v : Int32} {n : Nat} (hn : n < 2 ^ 31) : (¬ (if v < 0 then 0 else (if nI n - 1 < v then 0 else 1 : Int32) : Int32) = 0) ↔ inR v n := by
  rw [← inR_iff hn]
  by_cases h1 : v < 0
  · rw [if_pos h1]
    exact ⟨fun z => absurd rfl z, fun z => absurd h1 z.1⟩
  · rw [if_neg h1]
    obtain ⟨j, hj, rfl⟩ := nI_of h1
    have key : nI n - 1 < nI j ↔ nI n ≤ nI j := by
      cases n with
      | zero => exact ⟨fun _ => nI_le (Nat.zero_le _) hj, fun _ => by rw [Int32.lt_iff_toInt_lt, nI_toInt hj, show (nI 0 - 1).toInt = -1 from by decide]; omega⟩
      | succ n => rw [nI_pred, nI_ltI (by omega) hj, nI_leI hn hj]; omega
    by_cases h2 : nI n ≤ nI j
    · rw [if_pos (key.mpr h2)]
      exact ⟨fun z => absurd rfl z, fun z => absurd h2 z.2⟩
    · rw [if_neg (fun z => h2 (key.mp z))]
      exact ⟨fun _ => ⟨h1, h2⟩, fun _ => by decide⟩
theorem inR_k {v K : Int32} {n : Nat} (hK : K = nI n - 1) (hn : n < 2 ^ 31) : (¬ (if v < 0 then 0 else (if K < v then 0 else 1 : Int32) : Int32) = 0) ↔ inR v n := by rw [hK]; exact inR_in hn
section Pub
variable {l : Launch} {x : CX} {mo nc nf nr nr' m : Nat} {g : PH} {f F t ct rt : Nat → Int32}
theorem c_isIn {a b c : Int32} {g : PH} : CI l x mX8_isIn 0 0 0 [.int a, .int b, .int c] g (fun r h' => r = (if a < b then 0 else (if c < a then 0 else 1 : Int32) : Int32) ∧ h' = g) :=
  Cm.of (by decide) (Nat.le_of_ble_eq_true rfl) (vX8_isIn_0 ⟨by split; exact Or.inl rfl; split; exact Or.inl rfl; exact Or.inr rfl, _, rfl, rfl, rfl⟩)
theorem in01 {a b c : Int32} : (if a < b then 0 else (if c < a then 0 else 1 : Int32) : Int32) = 0 ∨ (if a < b then 0 else (if c < a then 0 else 1 : Int32) : Int32) = 1 := by
  split
  · exact Or.inl rfl
  · split
    · exact Or.inl rfl
    · exact Or.inr rfl
theorem c_isCar {v : Int32} (w : RW mo t ct g) (t1 : t 1 = nI nc) (hC : nc ≤ 4) : CI l x mX8_isCar 1 0 0 [.ref mo, .int v] g (fun r h' => (¬ r = 0 ↔ inR v nc) ∧ h' = g) := by
  have w4 := w.1.row 4 4 7 (by decide)
  refine Cm.of (by decide) (Nat.le_of_ble_eq_true rfl) (vX8_isCar_0 ⟨w.1.1, mo + 4, w4.1, w4.2.1, by rw [w4.2.2]; exact vp_in_nI (n := 1) (by decide) (by decide), ?_⟩)
  rw [show hI g (mo + 4) (Int32.toNatClampNeg 1) = nI nc from (w.2.1 1).trans t1]
  refine ⟨_, c_isIn, ?_⟩
  rintro _ _ ⟨rfl, rfl⟩
  exact ⟨in01, _, rfl, inR_in (by omega), rfl⟩
theorem c_isFloor {v : Int32} (w : RW mo t ct g) (t0 : t 0 = nI nf) (hF : nf ≤ 12) : CI l x mX8_isFloor 1 0 0 [.ref mo, .int v] g (fun r h' => (¬ r = 0 ↔ inR v nf) ∧ h' = g) := by
  have w4 := w.1.row 4 4 7 (by decide)
  refine Cm.of (by decide) (Nat.le_of_ble_eq_true rfl) (vX8_isFloor_0 ⟨w.1.1, mo + 4, w4.1, w4.2.1, by rw [w4.2.2]; exact vp_in_nI (n := 0) (by decide) (by decide), ?_⟩)
  rw [show hI g (mo + 4) (Int32.toNatClampNeg 0) = nI nf from (w.2.1 0).trans t0]
  refine ⟨_, c_isIn, ?_⟩
  rintro _ _ ⟨rfl, rfl⟩
  exact ⟨in01, _, rfl, inR_in (by omega), rfl⟩
theorem c_isRider {v : Int32} (w : MW mo g) (q : NR mo g f) (h6 : f 6 = nI nr) (h24 : nr ≤ 24) : CI l x mX8_isRider 1 0 0 [.ref mo, .int v] g (fun r h' => (¬ r = 0 ↔ inR v nr) ∧ h' = g) := by
  have w2 := w.row 2 2 312 (by decide)
  refine Cm.of (by decide) (Nat.le_of_ble_eq_true rfl) (vX8_isRider_0 ⟨w.1, mo + 2, w2.1, w2.2.1, by rw [w2.2.2]; exact vp_in_nI (n := 6) (by decide) (by decide), ?_⟩)
  rw [show hI g (mo + 2) (Int32.toNatClampNeg 6) = nI nr from (q.at 6 (by decide)).trans h6]
  refine ⟨_, c_isIn, ?_⟩
  rintro _ _ ⟨rfl, rfl⟩
  exact ⟨in01, _, rfl, inR_in (by omega), rfl⟩
theorem c_fail {k : Int32} (w : MW mo g) : CI l x mX8_fail 0 0 0 [.ref mo, .int k] g (fun r h' => r = 0 ∧ h' = sI g mo 1 k) :=
  Cm.of (by decide) (Nat.le_of_ble_eq_true rfl) (vX8_fail_0 ⟨w.1, _, rfl, rfl, rfl⟩)
/-- what a call that only looks leaves: its answer, or what it throws -/
def PQ (mo : Nat) (g : PH) (f : Nat → Int32) (a : Int32 ⊕ Nat) (v : Int32) (h' : PH) : Prop := SG (scr mo) g h' ∧ NR mo h' f ∧ match a with | .inl u => v = u ∧ hI h' mo 1 = 0 | .inr k => hI h' mo 1 = nI k
theorem s10 : SG (scr mo) g (sI g mo 1 0) := SG.sI (Or.inr (Or.inr (Or.inr (Or.inr (Or.inr ⟨rfl, Or.inl rfl⟩)))))
theorem s1v {v : Int32} : SG (scr mo) g (sI g mo 1 v) := SG.sI (Or.inr (Or.inr (Or.inr (Or.inr (Or.inr ⟨rfl, Or.inl rfl⟩)))))
theorem PQ.mkOk {a : Int32 ⊕ Nat} {v u : Int32} {h' : PH} (s : SG (scr mo) (sI g mo 1 0) h') (n : NR mo h' f) (e : a = .inl u) (ev : v = u) (e1 : hI h' mo 1 = 0) : PQ mo g f a v h' := by
  subst e
  exact ⟨s10.trans s, n, ev, e1⟩
/-- the way to a throw -/
theorem PQ.mkFail {a : Int32 ⊕ Nat} {k : Nat} {K : Int32} {h' : PH} (hK' : K = nI k) (w : MW mo h') (s : SG (scr mo) (sI g mo 1 0) h') (n : NR mo h' f) (e : a = .inr k) : (hK h' mo).1 = 8 ∧ ∃ q : Int32 → PH → Prop, CI l x mX8_fail 0 0 0 [.ref mo, .int K] h' q ∧ ∀ (r : Int32) (h2 : PH), q r h2 → ∃ r', some (Value.int r) = some (.int r') ∧ PQ mo g f a r' h2 := by
  subst e
  refine ⟨w.1, _, c_fail w, ?_⟩
  rintro _ _ ⟨rfl, rfl⟩
  exact ⟨_, rfl, (s10.trans s).trans s1v, n.s1, by rw [gI, hK']⟩
/-! rider, car, given, cost -/
noncomputable def dp (p : Prop) : Decidable p := Classical.propDecidable p
noncomputable def ite' {α : Type} (p : Prop) (a b : α) : α := @ite α p (dp p) a b
theorem ite'_t {α : Type} {p : Prop} {a b : α} (h : p) : ite' p a b = a := @if_pos p (dp p) h α a b
theorem ite'_f {α : Type} {p : Prop} {a b : α} (h : ¬ p) : ite' p a b = b := @if_neg p (dp p) h α a b
noncomputable def aRider (f : Nat → Int32) (nr : Nat) (r k : Int32) : Int32 ⊕ Nat := ite' (inR r nr ∧ inR k 8) (.inl (f (48 + 9 * r.toNatClampNeg + k.toNatClampNeg))) (.inr 1)
theorem p_rider {r k : Int32} (w : MW mo g) (q : NR mo g f) (h6 : f 6 = nI nr) (h24 : nr ≤ 24) : CI l x mX8_rider 2 0 0 [.ref mo, .int r, .int k] g (fun v h' => PQ mo g f (aRider f nr r k) v h') := by
  have w1 : MW mo (sI g mo 1 0) := w
  refine Cm.of (by decide) (Nat.le_of_ble_eq_true rfl) (vX8_rider_0 ⟨w.1, _, c_isRider w1 q.s1 h6 h24, ?_⟩)
  rintro r5 _ ⟨i1, rfl⟩
  refine ⟨fun e => PQ.mkFail rfl w1 (SG.refl _ _) q.s1 (ite'_f fun z => i1.mpr z.1 e), fun e => ⟨_, c_isIn, ?_⟩⟩
  rintro _ _ ⟨rfl, rfl⟩
  have i2 : (¬ (if k < 0 then 0 else (if 7 < k then 0 else 1 : Int32) : Int32) = 0) ↔ inR k 8 := inR_k (n := 8) rfl (by decide)
  refine ⟨fun e2 => PQ.mkFail rfl w1 (SG.refl _ _) q.s1 (ite'_f fun z => i2.mpr z.2 e2), fun e2 => ?_⟩
  obtain ⟨c, hc, rfl⟩ := i1.mp e
  obtain ⟨j, hj, rfl⟩ := i2.mp e2
  refine ⟨w.1, _, r_same w1 q.s1 (c_of w1 (by omega) (by omega)), ?_⟩
  rintro _ h' ⟨rfl, s, n⟩
  refine ⟨_, rfl, PQ.mkOk (s.sg (by decide)) n (ite'_t ⟨⟨c, hc, rfl⟩, j, hj, rfl⟩) (by rw [nI_clamp (by omega), nI_clamp (by omega)]) ?_⟩
  rw [s.fldE (by decide)]
  exact gI _ _ _ _
end Pub
