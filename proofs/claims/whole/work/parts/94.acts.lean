/-! THE REFERENCE'S FACE: acts -/
/-- row; acts (how many, rows); notes (how many, riders, times); status -/
abbrev DT : Type := (Nat → Int32) × (Nat × (Nat → Nat → Int32)) × (Nat × (Nat → Int32) × (Nat → Int32)) × (Nat → Int32)
def AC (mo : Nat) (h : PH) (n : Nat) (A : Nat → Nat → Int32) : Prop := hI h mo 24 = nI n ∧ ∀ i, i < n → ∀ j, j < 312 → hI h (mo + 13) (312 * i + j) = A i j
def ST3 (mo : Nat) (h : PH) (s : Nat → Int32) : Prop := ∀ i, i < 3 → hI h (mo + 3) i = s i
def DK (mo : Nat) (h : PH) (D : DT) : Prop := NR mo h D.1 ∧ AC mo h D.2.1.1 D.2.1.2 ∧ NT mo h D.2.2.1.1 D.2.2.1.2.1 D.2.2.1.2.2 ∧ ST3 mo h D.2.2.2
def scrA (mo b j : Nat) : Prop := b = mo + 2 ∨ b = mo + 3 ∨ (mo + 11 ≤ b ∧ b ≤ mo + 17) ∨ (b = mo ∧ (j = 1 ∨ j = 24 ∨ j = 26 ∨ j = 29 ∨ j = 30 ∨ j = 32))
theorem SG.up' {P Q : Nat → Nat → Prop} {g h' : PH} (a : SG P g h') (h : ∀ b j, P b j → Q b j) : SG Q g h' := ⟨a.1, a.2.1, a.2.2.1, fun b j hb => a.2.2.2 b j fun z => hb (h b j z)⟩
theorem scr_A {mo b j : Nat} (h : scr mo b j) : scrA mo b j := by unfold scr at h; unfold scrA; omega
theorem RX.sA {mo : Nat} {t ct rt : Nat → Int32} {g h' : PH} (w : RX mo t ct rt g) (a : SG (scrA mo) g h') : RX mo t ct rt h' :=
  ⟨⟨a.mw w.1.1, fun k => (a.2.2.2 _ _ (by unfold scrA; omega)).trans (w.1.2.1 k), fun k => (a.2.2.2 _ _ (by unfold scrA; omega)).trans (w.1.2.2 k)⟩, fun k => (a.2.2.2 _ _ (by unfold scrA; omega)).trans (w.2 k)⟩
def kaN (n : Nat) : Nat := if n = 40 then 40 else n + 1
def kaA (n : Nat) (A : Nat → Nat → Int32) (f : Nat → Int32) : Nat → Nat → Int32 := fun i => if n = 40 then (if i < 39 then A (i + 1) else f) else if i < n then A i else f
def dRef (D : DT) (k : Nat) : DT := (D.1, D.2.1, D.2.2.1, up D.2.2.2 k (D.2.2.2 k + 1))
def dKeep (D : DT) (F : Nat → Int32) : DT := (F, (kaN D.2.1.1, kaA D.2.1.1 D.2.1.2 D.1), D.2.2.1, D.2.2.2)
section Acts
variable {l : Launch} {x : CX} {mo nc nf nr nr' m nn n : Nat} {g : PH} {f F t ct rt ri ti s : Nat → Int32} {A : Nat → Nat → Int32}
abbrev scrK (mo b j : Nat) : Prop := b = mo + 13 ∨ (b = mo ∧ j = 24)
theorem r_keep (w : MW mo g) (q : NR mo g f) (hA : AC mo g n A) (hn : n ≤ 40) : CV l x mX8_keep 0 0 0 [.ref mo] g (fun h' => SG (scrK mo) g h' ∧ AC mo h' (kaN n) (kaA n A f)) := by
  have w2 := w.row 2 2 312 (by decide)
  have w13 := w.row 25 13 12480 (by decide)
  -- the row is laid behind the acts; k: how many there are
  have l56 : ∀ (k : Nat), k < 40 → ∀ (i j : Nat) (h : PH), j + i = 312 → SG (scrK mo) g h → hI h mo 24 = nI k → (∀ i, i < k → ∀ j, j < 312 → hI h (mo + 13) (312 * i + j) = (kaA n A f) i j) → (∀ j', j' < j → hI h (mo + 13) (312 * k + j') = f j') → kaN n = k + 1 → (kaA n A f) k = f → Gm l x mX8_keep 0 56 [(0, .ref mo), (1, .int (nI j))] [] h 0 0 (hN g) (fun v h' => v = none ∧ SG (scrK mo) g h' ∧ AC mo h' (kaN n) (kaA n A f)) (fun _ _ => False) := by
    intro k hk i
    induction i with
    | zero =>
      intro j h hj sh h24 hA1 hf1 eN eF
      obtain rfl : j = 312 := by omega
      refine vX8_keep_56 ⟨fun _ => ⟨(sh.mw w).1, rfl, sh.trans (SG.sI (Or.inr ⟨rfl, rfl⟩)), ?_, fun i hi j hj => ?_⟩, fun e => absurd (by decide) e⟩
      · rw [gI, h24, nI_1, eN]
      · rw [gIa _ _ _ _ (by omega)]
        rw [eN] at hi
        rcases Nat.lt_or_ge i k with z | z
        · exact hA1 i z j hj
        · obtain rfl : i = k := by omega
          rw [eF]
          exact hf1 j hj
    | succ i ih =>
      intro j h hj sh h24 hA1 hf1 eN eF
      have wh := sh.mw w
      have v2 := wh.row 2 2 312 (by decide)
      have v13 := wh.row 25 13 12480 (by decide)
      have ei : (312 : Int32) * hI h mo 24 + nI j = nI (312 * k + j) := by
        rw [h24]
        show nI 312 * nI k + nI j = _
        rw [nI_mul, nI_add]
      refine vX8_keep_56 ⟨fun e => absurd e (nI_ge (b := 312) (by omega) (by decide)), fun _ => ⟨wh.1, mo + 13, v13.1, mo + 2, v2.1, v2.2.1, by rw [v2.2.2]; exact vp_in_nI (by omega) (by decide), v13.2.1, by rw [v13.2.2, ei]; exact vp_in_nI (by omega) (by decide), ?_⟩⟩
      rw [ei, nI_clamp (by omega), nI_clamp (by omega), nI_1]
      have e2 : hI h (mo + 2) j = f j := (sh.2.2.2 _ _ (by omega)).trans (q j (by omega))
      rw [e2]
      refine ih (j + 1) _ (by omega) (sh.trans (SG.sI (Or.inl rfl))) ?_ (fun i' hi' j' hj' => ?_) (fun j' hj' => ?_) eN eF
      · rw [gIa _ _ _ _ (by omega)]; exact h24
      · rw [gIk _ _ _ (by omega)]; exact hA1 i' hi' j' hj'
      · by_cases z : j' = j
        · rw [z]; exact gI _ _ _ _
        · rw [gIk _ _ _ (by omega)]; exact hf1 j' (by omega)
  by_cases h40 : n = 40
  · subst h40
    have l13 : ∀ (i k : Nat) (h : PH), k + i = 12480 → 312 ≤ k → SG (scrK mo) g h → hI h mo 24 = nI 40 → (∀ j, j < 12480 → hI h (mo + 13) j = if j + 312 < k then hI g (mo + 13) (j + 312) else hI g (mo + 13) j) → Gm l x mX8_keep 0 13 [(0, .ref mo), (1, .int (nI k))] [] h 0 0 (hN g) (fun v h' => v = none ∧ SG (scrK mo) g h' ∧ AC mo h' (kaN 40) (kaA 40 A f)) (fun _ _ => False) := by
      intro i
      induction i with
      | zero =>
        intro k h hk h3 sh h24 hs
        obtain rfl : k = 12480 := by omega
        have wh := sh.mw w
        have v13 := wh.row 25 13 12480 (by decide)
        refine vX8_keep_13 ⟨wh.1, mo + 13, v13.1, v13.2.1, fun _ => ?_, fun e => absurd ?_ e⟩
        · refine l56 39 (by decide) 312 0 _ rfl (sh.trans (SG.sI (Or.inr ⟨rfl, rfl⟩))) ?_ (fun i hi j hj => ?_) (fun j' z => absurd z (Nat.not_lt_zero j')) rfl rfl
          · rw [gI, h24]; rfl
          · rw [gIa _ _ _ _ (by omega), hs _ (by omega), if_pos (by omega), show 312 * i + j + 312 = 312 * (i + 1) + j by omega, hA.2 (i + 1) (by omega) j hj]
            unfold kaA
            rw [if_pos rfl, if_pos hi]
        · rw [v13.2.2]
          exact nI_le (a := 12480) (Nat.le_refl _) (by decide)
      | succ i ih =>
        intro k h hk h3 sh h24 hs
        have wh := sh.mw w
        have v13 := wh.row 25 13 12480 (by decide)
        have ek : nI k - 312 = nI (k - 312) := by
          obtain ⟨z, rfl⟩ : ∃ z, k = z + 312 := ⟨k - 312, by omega⟩
          rw [show z + 312 - 312 = z by omega, ← nI_add]
          show nI z + 312 - 312 = nI z
          exact Int32.add_sub_cancel _ _
        refine vX8_keep_13 ⟨wh.1, mo + 13, v13.1, v13.2.1, fun e => absurd e ?_, fun _ => ⟨by rw [v13.2.2]; exact vp_in_nI (by omega) (by decide), by rw [v13.2.2, ek]; exact vp_in_nI (by omega) (by decide), ?_⟩⟩
        · rw [v13.2.2]
          exact nI_ge (b := 12480) (by omega) (by decide)
        · rw [ek, nI_clamp (by omega), nI_clamp (by omega), nI_1, hs k (by omega), if_neg (by omega)]
          refine ih (k + 1) _ (by omega) (by omega) (sh.trans (SG.sI (Or.inl rfl))) ?_ (fun j hj => ?_)
          · rw [gIa _ _ _ _ (by omega)]; exact h24
          · by_cases z : j = k - 312
            · rw [z, if_pos (by omega), show k - 312 + 312 = k by omega]; exact gI _ _ _ _
            · rw [gIk _ _ _ z, hs j hj]
              by_cases z2 : j + 312 < k
              · rw [if_pos z2, if_pos (by omega)]
              · rw [if_neg z2, if_neg (by omega)]
    refine Cm.of (by decide) (Nat.le_of_ble_eq_true rfl) (vX8_keep_0 ⟨w.1, fun e => absurd hA.1 e, fun _ => ?_⟩)
    exact l13 12168 312 g rfl (Nat.le_refl _) (SG.refl _ _) hA.1 (fun j hj => by rw [if_neg (by omega)])
  · refine Cm.of (by decide) (Nat.le_of_ble_eq_true rfl) (vX8_keep_0 ⟨w.1, fun _ => ?_, fun e => absurd ?_ h40⟩)
    · refine l56 n (by omega) 312 0 g rfl (SG.refl _ _) hA.1 (fun i hi j hj => ?_) (fun j' z => absurd z (Nat.not_lt_zero j')) (by unfold kaN; rw [if_neg h40]) (by unfold kaA; rw [if_neg h40, if_neg (Nat.lt_irrefl n)])
      unfold kaA
      rw [if_neg h40, if_pos hi]
      exact hA.2 i hi j hj
    · rw [hA.1] at e
      exact (nI_eq (b := 40) (by omega) (by decide)).mp e
theorem c_refuse {k : Nat} (w : MW mo g) (hk : k < 3) : CI l x mX8_refuse 0 0 0 [.ref mo, .int (nI k)] g (fun v h' => v = -1 ∧ h' = sI g (mo + 3) k (hI g (mo + 3) k + 1)) := by
  have w3 := w.row 3 3 3 (by decide)
  have v3 : vp_in (nI k) (hK g (mo + 3)).2 := by rw [w3.2.2]; exact vp_in_nI hk (by decide)
  refine Cm.of (by decide) (Nat.le_of_ble_eq_true rfl) (vX8_refuse_0 ⟨w.1, mo + 3, w3.1, w3.2.1, v3, v3, _, rfl, rfl, ?_⟩)
  rw [nI_clamp (by omega)]
theorem c_refused (w : MW mo g) : CI l x mX8_refused 1 0 0 [.ref mo] g (fun v h' => v = 0 ∧ h' = sI g (mo + 3) 1 (hI g (mo + 3) 1 + 1)) := by
  refine Cm.of (by decide) (Nat.le_of_ble_eq_true rfl) (vX8_refused_0 ⟨w.1, _, c_refuse (k := 1) w (by decide), ?_⟩)
  rintro _ _ ⟨rfl, rfl⟩
  exact ⟨by decide, _, rfl, by decide, rfl⟩
/-- what an act leaves -/
def AQ (mo : Nat) (g : PH) (a : Int32 × DT) (v : Int32) (h' : PH) : Prop := SG (scrA mo) g h' ∧ v = a.1 ∧ DK mo h' a.2
theorem DK.s1 {D : DT} (d : DK mo g D) {v : Int32} : DK mo (sI g mo 1 v) D :=
  ⟨d.1.s1, ⟨(gIk _ _ _ (by decide)).trans d.2.1.1, fun i hi j hj => (gIa _ _ _ _ (by omega)).trans (d.2.1.2 i hi j hj)⟩, ⟨(gIk _ _ _ (by decide)).trans d.2.2.1.1, fun i hi => ⟨(gIa _ _ _ _ (by omega)).trans (d.2.2.1.2 i hi).1, (gIa _ _ _ _ (by omega)).trans (d.2.2.1.2 i hi).2⟩⟩, fun i hi => (gIa _ _ _ _ (by omega)).trans (d.2.2.2 i hi)⟩
theorem DK.sg {D : DT} {h' : PH} (d : DK mo g D) (a : SG (scr mo) g h') (n : NR mo h' D.1) : DK mo h' D :=
  ⟨n, ⟨(a.fldE (by decide) (by decide) (by decide) (by decide)).trans d.2.1.1, fun i hi j hj => (a.rowE (by decide) (by decide) (by decide) (by decide) (by decide) (by decide) (by decide) _).trans (d.2.1.2 i hi j hj)⟩, d.2.2.1.sg a, fun i hi => (a.rowE (by decide) (by decide) (by decide) (by decide) (by decide) (by decide) (by decide) _).trans (d.2.2.2 i hi)⟩
theorem DK.ref {D : DT} (d : DK mo g D) {k : Nat} (hk : k < 3) : DK mo (sI g (mo + 3) k (hI g (mo + 3) k + 1)) (dRef D k) := by
  refine ⟨fun j hj => (gIa _ _ _ _ (by omega)).trans (d.1 j hj), ⟨(gIa _ _ _ _ (by omega)).trans d.2.1.1, fun i hi j hj => (gIa _ _ _ _ (by omega)).trans (d.2.1.2 i hi j hj)⟩, ⟨(gIa _ _ _ _ (by omega)).trans d.2.2.1.1, fun i hi => ⟨(gIa _ _ _ _ (by omega)).trans (d.2.2.1.2 i hi).1, (gIa _ _ _ _ (by omega)).trans (d.2.2.1.2 i hi).2⟩⟩, fun i hi => ?_⟩
  show _ = up D.2.2.2 k (D.2.2.2 k + 1) i
  by_cases z : i = k
  · rw [z, up_eq, gI, d.2.2.2 k hk]
  · rw [up_ne z, gIk _ _ _ z]
    exact d.2.2.2 i hi
/-- the row is kept; what comes behind it changes the row alone -/
theorem DK.keep {D : DT} {h1 : PH} (d : DK mo g D) (a : SG (scrK mo) g h1) (hA : AC mo h1 (kaN D.2.1.1) (kaA D.2.1.1 D.2.1.2 D.1)) : DK mo h1 (dKeep D D.1) ∧ SG (scrA mo) g h1 := by
  refine ⟨⟨fun j hj => (a.2.2.2 _ _ (by unfold scrK; omega)).trans (d.1 j hj), hA, ⟨(a.2.2.2 _ _ (by unfold scrK; omega)).trans d.2.2.1.1, fun i hi => ⟨(a.2.2.2 _ _ (by unfold scrK; omega)).trans (d.2.2.1.2 i hi).1, (a.2.2.2 _ _ (by unfold scrK; omega)).trans (d.2.2.1.2 i hi).2⟩⟩, fun i hi => (a.2.2.2 _ _ (by unfold scrK; omega)).trans (d.2.2.2 i hi)⟩, a.up' fun b j z => ?_⟩
  unfold scrK at z
  unfold scrA
  omega
theorem DK.row {D : DT} {h1 h2 : PH} (d : DK mo h1 (dKeep D D.1)) (s : SB [2, 11] mo h1 h2) (n : NR mo h2 F) : DK mo h2 (dKeep D F) :=
  ⟨n, ⟨(s.fldE (by decide) 24).trans d.2.1.1, fun i hi j hj => (s.rowE (by decide) _).trans (d.2.1.2 i hi j hj)⟩, ⟨(s.fldE (by decide) 26).trans d.2.2.1.1, fun i hi => ⟨(s.rowE (by decide) _).trans (d.2.2.1.2 i hi).1, (s.rowE (by decide) _).trans (d.2.2.1.2 i hi).2⟩⟩, fun i hi => (s.rowE (by decide) _).trans (d.2.2.2 i hi)⟩
theorem sA1 {v : Int32} : SG (scrA mo) g (sI g mo 1 v) := s1v.up' fun _ _ => scr_A
theorem sA3 {k : Nat} {v : Int32} : SG (scrA mo) g (sI g (mo + 3) k v) := SG.sI (Or.inr (Or.inl rfl))
theorem SB.sA {S : List Nat} {h' : PH} (a : SB S mo g h') (hS : ∀ s ∈ S, s = 2 ∨ s = 11 ∨ s = 12 ∨ s = 16 ∨ s = 17) : SG (scrA mo) g h' := (a.sg hS).up' fun _ _ => scr_A
theorem AQ.ref {D : DT} {h' : PH} (w : MW mo h') (s : SG (scrA mo) g h') (d : DK mo h' D) {a : Int32 × DT} (e : a = (-1, dRef D 1)) : (hK h' mo).1 = 8 ∧ ∃ q : Int32 → PH → Prop, CI l x mX8_refuse 0 0 0 [.ref mo, .int 1] h' q ∧ ∀ (r : Int32) (h2 : PH), q r h2 → ∃ r', some (Value.int r) = some (.int r') ∧ AQ mo g a r' h2 := by
  subst e
  refine ⟨w.1, _, c_refuse (k := 1) w (by decide), ?_⟩
  rintro _ _ ⟨rfl, rfl⟩
  exact ⟨_, rfl, s.trans sA3, rfl, d.ref (by decide)⟩
theorem AQ.refd {D : DT} {h' : PH} (w : MW mo h') (s : SG (scrA mo) g h') (d : DK mo h' D) {a : Int32 × DT} (e : a = (0, dRef D 1)) : (hK h' mo).1 = 8 ∧ ∃ q : Int32 → PH → Prop, CI l x mX8_refused 1 0 0 [.ref mo] h' q ∧ ∀ (r : Int32) (h2 : PH), q r h2 → (r = 0 ∨ r = 1) ∧ ∃ r', some (Value.int r) = some (.int r') ∧ AQ mo g a r' h2 := by
  subst e
  refine ⟨w.1, _, c_refused w, ?_⟩
  rintro _ _ ⟨rfl, rfl⟩
  exact ⟨Or.inl rfl, _, rfl, s.trans sA3, rfl, d.ref (by decide)⟩
end Acts
