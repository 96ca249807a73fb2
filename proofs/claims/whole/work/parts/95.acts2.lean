/-! THE REFERENCE'S FACE: the acts themselves -/
abbrev rn (f : Nat → Int32) : Nat := (f 6).toNatClampNeg
theorem Row.rnE {ct : Nat → Int32} {nc nf nr : Nat} {f : Nat → Int32} (W : Row ct nc nf nr f) : rn f = nr := by
  show (f 6).toNatClampNeg = nr
  rw [W.f6, nI_clamp (by have := W.r24; omega)]
noncomputable def aTicks (t ct : Nat → Int32) (nc nf : Nat) (D : DT) (n : Int32) : Int32 × DT := ite' ((inR n 61 ∧ ¬ n = 0) ∧ D.1 0 + n ≤ 999) (ticksC t ct (rn D.1) nf nc D.1 n.toNatClampNeg 0, dKeep D (ticksC t ct (rn D.1) nf nc D.1 n.toNatClampNeg)) (-1, dRef D 1)
noncomputable def aCome (nf : Nat) (D : DT) (a b s : Int32) : Int32 × DT := ite' (inR a nf ∧ inR b nf ∧ ¬ a = b ∧ (s = 1 ∨ s = 2) ∧ ¬ rn D.1 = 24) (nI (rn D.1), dKeep D (cwF D.1 (rn D.1) a b s)) (-1, dRef D 1)
/-- calls of a car are taken from it, at the places below i -/
def otK (f : Nat → Int32) (c i : Nat) : Nat → Int32 := fun j => if 264 ≤ j ∧ j < i ∧ f j = nI c + 1 then 0 else f j
def otG (f : Nat → Int32) (c nr : Nat) : Nat → Int32 := up (up (emptiesC (up f (16 + 8 * c + 4) 0) c nr) (16 + 8 * c + 2) 0) (16 + 8 * c + 1) 0
def otF (f : Nat → Int32) (c nr : Nat) : Nat → Int32 := otK (otG f c nr) c 312
noncomputable def aOut (nc : Nat) (D : DT) (c u : Int32) : Int32 × DT := ite' (inR c nc ∧ ¬ D.1 (16 + 8 * c.toNatClampNeg + 4) = (if u = 0 then 1 else 0)) (1, dKeep D (if u = 0 then up D.1 (16 + 8 * c.toNatClampNeg + 4) 1 else otF D.1 c.toNatClampNeg (rn D.1))) (0, dRef D 1)
noncomputable def aFire (D : DT) (u : Int32) : Int32 × DT := ite' (¬ (if D.1 1 = 1 then 1 else 0 : Int32) = u) (1, dKeep D (up D.1 1 (if u = 0 then 0 else 1))) (0, dRef D 1)
noncomputable def aRule (D : DT) (k v : Int32) : Int32 × DT := ite' ((k = 0 ∧ inR v 3) ∨ (k = 1 ∧ inR v 12)) (D.1 (2 + k.toNatClampNeg), dKeep D (up D.1 (2 + k.toNatClampNeg) v)) (-1, dRef D 1)
def aUndo (D : DT) : Int32 × DT := if D.2.1.1 = 0 then (-1, D) else (nI (D.2.1.1 - 1), (D.2.1.2 (D.2.1.1 - 1), (D.2.1.1 - 1, D.2.1.2), D.2.2.1, D.2.2.2))
noncomputable def aNote (nr : Nat) (D : DT) (r tm : Int32) : Int32 × DT := ite' (¬ D.2.2.1.1 = 8 ∧ inR r nr ∧ inR tm 200) (nI (D.2.2.1.1 + 1), (D.1, D.2.1, (D.2.2.1.1 + 1, up D.2.2.1.2.1 D.2.2.1.1 r, up D.2.2.1.2.2 D.2.2.1.1 tm), D.2.2.2)) (-1, dRef D 2)
def dForget (D : DT) : DT := (D.1, D.2.1, (0, D.2.2.1.2.1, D.2.2.1.2.2), D.2.2.2)
theorem n60 {v : Int32} : (¬ (if v < 1 then 0 else (if 60 < v then 0 else 1 : Int32) : Int32) = 0) ↔ inR v 61 ∧ ¬ v = 0 := by
  constructor
  · intro h
    by_cases h1 : v < 1
    · rw [if_pos h1] at h; exact absurd rfl h
    · rw [if_neg h1] at h
      by_cases h2 : 60 < v
      · rw [if_pos h2] at h; exact absurd rfl h
      · rw [Int32.lt_iff_toInt_lt, show (1 : Int32).toInt = 1 from rfl] at h1
        rw [Int32.lt_iff_toInt_lt, show (60 : Int32).toInt = 60 from rfl] at h2
        have e : v = nI v.toInt.toNat := of_toInt (by omega) (by omega)
        refine ⟨⟨v.toInt.toNat, by omega, e⟩, fun z => ?_⟩
        rw [z] at h1
        exact h1 (by decide)
  · rintro ⟨⟨c, hc, rfl⟩, h0⟩
    have : ¬ c = 0 := fun z => h0 (by rw [z]; rfl)
    have z1 : ¬ nI c < 1 := nI_nlt (a := c) (b := 1) (by omega) (by omega)
    have z2 : ¬ (60 : Int32) < nI c := nI_nlt (a := 60) (b := c) (by omega) (by decide)
    rw [if_neg z1, if_neg z2]
    decide
section Acts2
variable {l : Launch} {x : CX} {mo nc nf nr nr' m nn n : Nat} {g : PH} {f F t ct rt ri ti s : Nat → Int32} {D : DT}
theorem p_ticks {v : Int32} (w : RX mo t ct rt g) (d : DK mo g D) (hT : TK t nc nf) (W : Row ct nc nf (rn D.1) D.1) (hn : D.2.1.1 ≤ 40) : CI l x mX8_ticks 12 0 0 [.ref mo, .int v] g (fun r h' => AQ mo g (aTicks t ct nc nf D v) r h') := by
  have w1 : RX mo t ct rt (sI g mo 1 0) := w.sg s10
  have d1 : DK mo (sI g mo 1 0) D := d.s1
  have w2 := w1.1.1.row 2 2 312 (by decide)
  refine Cm.of (by decide) (Nat.le_of_ble_eq_true rfl) (vX8_ticks_0 ⟨w.1.1.1, _, c_isIn, ?_⟩)
  rintro _ _ ⟨rfl, rfl⟩
  refine ⟨fun e => AQ.ref w1.1.1 sA1 d1 (ite'_f fun z => n60.mpr z.1 e), fun e => ⟨w1.1.1.1, mo + 2, w2.1, w2.2.1, by rw [w2.2.2]; exact vp_in_nI (n := 0) (by decide) (by decide), ?_⟩⟩
  rw [show hI (sI g mo 1 0) (mo + 2) (Int32.toNatClampNeg 0) = D.1 0 from d1.1.at 0 (by decide)]
  refine ⟨fun e2 => ⟨_, r_keep w1.1.1 d1.1 d1.2.1 hn, ?_⟩, fun e2 => (AQ.ref w1.1.1 sA1 d1 (ite'_f fun z => e2 z.2)).2⟩
  rintro h20 ⟨k20, A20⟩
  obtain ⟨d20, g20⟩ := d1.keep k20 A20
  have w20 := w1.sA g20
  obtain ⟨⟨N, hN', rfl⟩, h0⟩ := n60.mp e
  refine ⟨w20.1.1.1, _, r_ticks w20.1 d20.1 hT W (by omega), ?_⟩
  rintro h24 ⟨s24, n24⟩
  have w24 := w20.sb s24 (by decide) (by decide) (by decide)
  have v2 := w24.1.1.row 2 2 312 (by decide)
  have ea : aTicks t ct nc nf D (nI N) = (ticksC t ct (rn D.1) nf nc D.1 N 0, dKeep D (ticksC t ct (rn D.1) nf nc D.1 N)) := by
    refine (ite'_t ⟨⟨⟨N, hN', rfl⟩, h0⟩, e2⟩).trans ?_
    rw [nI_clamp (by omega)]
  refine ⟨w24.1.1.1, mo + 2, v2.1, v2.2.1, by rw [v2.2.2]; exact vp_in_nI (n := 0) (by decide) (by decide), _, rfl, (sA1.trans g20).trans (s24.sA (by decide)), ?_, ?_⟩
  · rw [ea]; exact n24.at 0 (by decide)
  · rw [ea]; exact d20.row s24 n24
theorem p_come {a b c : Int32} (w : RX mo t ct rt g) (d : DK mo g D) (hT : TK t nc nf) (W : Row ct nc nf (rn D.1) D.1) (hn : D.2.1.1 ≤ 40) : CI l x mX8_come 3 0 0 [.ref mo, .int a, .int b, .int c] g (fun r h' => AQ mo g (aCome nf D a b c) r h') := by
  have hF : nf ≤ 12 := by obtain ⟨⟨m, I⟩, _⟩ := W; exact I.hF
  have h24 := W.r24
  have w1 : RX mo t ct rt (sI g mo 1 0) := w.sg s10
  have d1 : DK mo (sI g mo 1 0) D := d.s1
  have w2 := w1.1.1.row 2 2 312 (by decide)
  refine Cm.of (by decide) (Nat.le_of_ble_eq_true rfl) (vX8_come_0 ⟨w.1.1.1, _, c_isFloor w1.1 hT.1.1 hF, ?_⟩)
  rintro r5 _ ⟨i1, rfl⟩
  refine ⟨fun e => AQ.ref w1.1.1 sA1 d1 (ite'_f fun z => i1.mpr z.1 e), fun e => ⟨w1.1.1.1, _, c_isFloor w1.1 hT.1.1 hF, ?_⟩⟩
  rintro r16 _ ⟨i2, rfl⟩
  refine ⟨fun e2 => AQ.ref w1.1.1 sA1 d1 (ite'_f fun z => i2.mpr z.2.1 e2), fun e2 => ⟨fun e3 => AQ.ref w1.1.1 sA1 d1 (ite'_f fun z => z.2.2.1 e3), fun e3 => ⟨_, c_isIn, ?_⟩⟩⟩
  rintro _ _ ⟨rfl, rfl⟩
  refine ⟨fun e4 => AQ.ref w1.1.1 sA1 d1 (ite'_f fun z => s12_iff.mpr z.2.2.2.1 e4), fun e4 => ⟨w1.1.1.1, mo + 2, w2.1, w2.2.1, by rw [w2.2.2]; exact vp_in_nI (n := 6) (by decide) (by decide), ?_⟩⟩
  rw [show hI (sI g mo 1 0) (mo + 2) (Int32.toNatClampNeg 6) = nI (rn D.1) from (d1.1.at 6 (by decide)).trans W.f6]
  refine ⟨fun e5 => ⟨_, r_keep w1.1.1 d1.1 d1.2.1 hn, ?_⟩, fun e5 => (AQ.ref w1.1.1 sA1 d1 (ite'_f fun z => z.2.2.2.2 ((nI_eq (b := 24) (by omega) (by decide)).mp e5))).2⟩
  rintro h20 ⟨k20, A20⟩
  obtain ⟨d20, g20⟩ := d1.keep k20 A20
  have w20 := w1.sA g20
  have h9 : ¬ rn D.1 = 24 := fun z => e5 (by rw [z]; rfl)
  refine ⟨w20.1.1.1, _, r_comesNow w20.1.1 d20.1 W (by omega), ?_⟩
  rintro _ h51 ⟨rfl, s51, n51⟩
  have ea : aCome nf D a b c = (nI (rn D.1), dKeep D (cwF D.1 (rn D.1) a b c)) := ite'_t ⟨i1.mp e, i2.mp e2, e3, s12_iff.mp e4, h9⟩
  refine ⟨_, rfl, (sA1.trans g20).trans (s51.sA (by decide)), ?_, ?_⟩
  · rw [ea]
  · rw [ea]; exact d20.row (s51.mono (by decide)) n51
theorem otK_step {c i : Nat} (hi : 264 ≤ i) (v : Int32) (hv : v = (if f i = nI c + 1 then 0 else f i)) : up (otK f c i) i v = otK f c (i + 1) := by
  funext j
  simp only [up, otK]
  by_cases h1 : j = i
  · rw [if_pos h1, h1, hv]
    by_cases h2 : f i = nI c + 1
    · rw [if_pos h2, if_pos ⟨hi, by omega, h2⟩]
    · rw [if_neg h2, if_neg (fun z => h2 z.2.2)]
  · rw [if_neg h1]
    by_cases h2 : 264 ≤ j ∧ j < i ∧ f j = nI c + 1
    · rw [if_pos h2, if_pos ⟨h2.1, by omega, h2.2.2⟩]
    · rw [if_neg h2, if_neg (fun z => h2 ⟨z.1, by omega, z.2.2⟩)]
theorem p_out {c u : Int32} (w : RX mo t ct rt g) (d : DK mo g D) (hT : TK t nc nf) (W : Row ct nc nf (rn D.1) D.1) (hn : D.2.1.1 ≤ 40) : CI l x mX8_out 3 0 0 [.ref mo, .int c, .int u] g (fun r h' => AQ mo g (aOut nc D c u) r h') := by
  have hC := W.c4
  have h24 := W.r24
  have w1 : RX mo t ct rt (sI g mo 1 0) := w.sg s10
  have d1 : DK mo (sI g mo 1 0) D := d.s1
  refine Cm.of (by decide) (Nat.le_of_ble_eq_true rfl) (vX8_out_0 ⟨w.1.1.1, _, c_isCar w1.1 hT.2 hC, ?_⟩)
  rintro r5 _ ⟨i1, rfl⟩
  refine ⟨fun e => AQ.refd w1.1.1 sA1 d1 (ite'_f fun z => i1.mpr z.1 e), fun e => ?_⟩
  obtain ⟨C, hc, rfl⟩ := i1.mp e
  have ec : (nI C).toNatClampNeg = C := nI_clamp (by omega)
  refine ⟨w1.1.1.1, _, r_same w1.1.1 d1.1 (c_carOf (k := 4) w1.1.1 (by omega) (by decide)), ?_⟩
  rintro _ h15 ⟨rfl, s15, n15⟩
  have w15 := w1.sb s15 (by decide) (by decide) (by decide)
  have d15 := d1.sg (s15.sg (by decide)) n15
  have g15 : SG (scrA mo) g h15 := sA1.trans (s15.sA (by decide))
  refine ⟨fun e2 => ⟨w15.1.1.1, _, r_keep w15.1.1 d15.1 d15.2.1 hn, ?_⟩, fun e2 => AQ.refd w15.1.1 g15 d15 (ite'_f fun z => z.2 (by rw [ec]; exact e2))⟩
  rintro h22 ⟨k22, A22⟩
  obtain ⟨d22, g22⟩ := d15.keep k22 A22
  have w22 := w15.sA g22
  refine ⟨w22.1.1.1, _, r_putCar (k := 4) w22.1.1 d22.1 (by omega) (by decide), ?_⟩
  rintro h27 ⟨s27, n27⟩
  have w27 := w22.sb s27 (by decide) (by decide) (by decide)
  have ea : aOut nc D (nI C) u = (1, dKeep D (if u = 0 then up D.1 (16 + 8 * C + 4) 1 else otF D.1 C (rn D.1))) := by
    unfold aOut
    rw [ec]
    exact ite'_t ⟨⟨C, hc, rfl⟩, e2⟩
  have g27 : SG (scrA mo) g h27 := (g15.trans g22).trans (s27.sA (by decide))
  refine ⟨fun e3 => ?_, fun e3 => ⟨by decide, _, rfl, g27, by rw [ea], ?_⟩⟩
  · rw [if_neg e3] at n27
    refine ⟨w27.1.1.1, _, n27.lift w27.1.1 (c_empties w27.1.1 (by omega) (by rw [up_ne (by omega)]; exact W.f6) h24), ?_⟩
    rintro _ rfl
    have s32' : SB [2] mo h27 (NW mo h27 (emptiesC (up (dKeep D D.1).1 (16 + 8 * C + 4) 0) C (rn D.1))) := SB.nw _ (by decide)
    have w32 := w27.sb s32' (by decide) (by decide) (by decide)
    refine ⟨w32.1.1.1, _, r_putCar (k := 2) w32.1.1 NR.nw (by omega) (by decide), ?_⟩
    rintro h36 ⟨s36, n36⟩
    have w36 := w32.sb s36 (by decide) (by decide) (by decide)
    refine ⟨w36.1.1.1, _, r_putCar (k := 1) w36.1.1 n36 (by omega) (by decide), ?_⟩
    rintro h40 ⟨s40, n40⟩
    have s4 : SB [2] mo h22 h40 := ((s27.trans s32').trans s36).trans s40
    have loop : ∀ (i k : Nat) (h : PH), k + i = 312 → 264 ≤ k → SB [2] mo h22 h → NR mo h (otK (otG D.1 C (rn D.1)) C k) → Gm l x mX8_out 3 84 [(0, .ref mo), (1, .int (nI C)), (2, .int u), (3, .int (nI k))] [] h 0 0 (hN g) (fun v h' => ∃ r, v = some (.int r) ∧ AQ mo g (aOut nc D (nI C) u) r h') (fun _ _ => False) := by
      intro i
      induction i with
      | zero =>
        intro k h hk h3 sh nh
        obtain rfl : k = 312 := by omega
        refine vX8_out_84 ⟨fun _ => ⟨by decide, _, rfl, (g15.trans g22).trans (sh.sA (by decide)), by rw [ea], ?_⟩, fun z => absurd (by decide) z⟩
        rw [ea, if_neg e3]
        exact d22.row (sh.mono (by decide)) nh
      | succ i ih =>
        intro k h hk h3 sh nh
        have wh := w22.sb sh (by decide) (by decide) (by decide)
        have v2 := wh.1.1.row 2 2 312 (by decide)
        have vk : vp_in (nI k) (hK h (mo + 2)).2 := by rw [v2.2.2]; exact vp_in_nI (by omega) (by decide)
        have ek : hI h (mo + 2) (nI k).toNatClampNeg = otG D.1 C (rn D.1) k := by
          rw [nI_clamp (by omega), nh k (by omega)]
          exact if_neg (fun z => by omega)
        have nxt : ∀ v : Int32, v = (if otG D.1 C (rn D.1) k = nI C + 1 then 0 else otG D.1 C (rn D.1) k) → Gm l x mX8_out 3 84 [(0, .ref mo), (1, .int (nI C)), (2, .int u), (3, .int (nI k + 1))] [] (sI h (mo + 2) (nI k).toNatClampNeg v) 0 0 (hN g) (fun v h' => ∃ r, v = some (.int r) ∧ AQ mo g (aOut nc D (nI C) u) r h') (fun _ _ => False) := by
          intro v hv
          rw [nI_1, nI_clamp (by omega)]
          refine ih (k + 1) _ (by omega) (by omega) (sh.trans ⟨rfl, rfl, rfl, fun b hb j => gIa _ _ _ _ (hb 2 (by decide))⟩) (fun j hj => ?_)
          rw [← otK_step h3 v hv]
          by_cases z : j = k
          · rw [z, up_eq]; exact gI _ _ _ _
          · rw [up_ne z, gIk _ _ _ z]; exact nh j hj
        refine vX8_out_84 ⟨fun z => absurd z (nI_ge (b := 312) (by omega) (by decide)), fun _ => ⟨wh.1.1.1, mo + 2, v2.1, v2.2.1, vk, ?_⟩⟩
        rw [ek]
        exact ⟨fun z => ⟨vk, vk, nxt _ (if_neg z).symm⟩, fun z => ⟨vk, nxt _ (if_pos z).symm⟩⟩
    refine loop 48 264 h40 rfl (Nat.le_refl _) s4 ?_
    have e0 : otK (otG D.1 C (rn D.1)) C 264 = otG D.1 C (rn D.1) := funext fun j => if_neg (fun z => by omega)
    rw [e0]
    exact n40
  · rw [ea, if_pos e3]
    rw [if_pos e3] at n27
    exact d22.row (s27.mono (by decide)) n27
theorem p_fire {u : Int32} (w : RX mo t ct rt g) (d : DK mo g D) (hn : D.2.1.1 ≤ 40) : CI l x mX8_fire 2 0 0 [.ref mo, .int u] g (fun r h' => AQ mo g (aFire D u) r h') := by
  have w1 : RX mo t ct rt (sI g mo 1 0) := w.sg s10
  have d1 : DK mo (sI g mo 1 0) D := d.s1
  have w2 := w.1.1.row 2 2 312 (by decide)
  refine Cm.of (by decide) (Nat.le_of_ble_eq_true rfl) (vX8_fire_0 ⟨w.1.1.1, mo + 2, w2.1, w2.2.1, by rw [w2.2.2]; exact vp_in_nI (n := 1) (by decide) (by decide), ?_⟩)
  rw [show hI (sI g mo 1 0) (mo + 2) (Int32.toNatClampNeg 1) = D.1 1 from d1.1.at 1 (by decide)]
  refine ⟨fun e => ⟨_, r_keep w1.1.1 d1.1 d1.2.1 hn, ?_⟩, fun e => (AQ.refd w1.1.1 sA1 d1 (ite'_f fun z => z e)).2⟩
  rintro h20 ⟨k20, A20⟩
  obtain ⟨d20, g20⟩ := d1.keep k20 A20
  have w20 := w1.sA g20
  have v2 := w20.1.1.row 2 2 312 (by decide)
  have ss : SB [2, 11] mo h20 (sI h20 (mo + 2) (Int32.toNatClampNeg 1) (if u = 0 then 0 else 1)) := ⟨rfl, rfl, rfl, fun b hb j => gIa _ _ _ _ (hb 2 (by decide))⟩
  refine ⟨w20.1.1.1, mo + 2, v2.1, v2.2.1, by rw [v2.2.2]; exact vp_in_nI (n := 1) (by decide) (by decide), by decide, _, rfl, (sA1.trans g20).trans (ss.sA (by decide)), ?_, ?_⟩
  · rw [aFire, ite'_t e]
  · rw [aFire, ite'_t e]
    refine d20.row ss (fun j hj => ?_)
    by_cases z : j = 1
    · rw [z, up_eq]; exact gI _ _ _ _
    · rw [up_ne z]; exact (gIk _ _ _ z).trans (d20.1 j hj)
theorem p_rule {k v : Int32} (w : RX mo t ct rt g) (d : DK mo g D) (hn : D.2.1.1 ≤ 40) : CI l x mX8_rule 1 0 0 [.ref mo, .int k, .int v] g (fun r h' => AQ mo g (aRule D k v) r h') := by
  have w1 : RX mo t ct rt (sI g mo 1 0) := w.sg s10
  have d1 : DK mo (sI g mo 1 0) D := d.s1
  have i1 : (¬ (if k < 0 then 0 else (if 1 < k then 0 else 1 : Int32) : Int32) = 0) ↔ inR k 2 := inR_k (n := 2) rfl (by decide)
  refine Cm.of (by decide) (Nat.le_of_ble_eq_true rfl) (vX8_rule_0 ⟨w.1.1.1, _, c_isIn, ?_⟩)
  rintro _ _ ⟨rfl, rfl⟩
  refine ⟨fun e => AQ.ref w1.1.1 sA1 d1 (ite'_f fun z => ?_), fun e => ⟨_, c_isIn, ?_⟩⟩
  · refine i1.mpr ?_ e
    rcases z with ⟨rfl, _⟩ | ⟨rfl, _⟩
    · exact ⟨0, by decide, rfl⟩
    · exact ⟨1, by decide, rfl⟩
  rintro _ _ ⟨rfl, rfl⟩
  have i2 : (¬ (if v < 0 then 0 else (if (if k = 0 then 2 else 11 : Int32) < v then 0 else 1 : Int32) : Int32) = 0) ↔ ((k = 0 ∧ inR v 3) ∨ (k = 1 ∧ inR v 12)) := by
    obtain ⟨K, hK9, rfl⟩ := i1.mp e
    have h2 : K = 0 ∨ K = 1 := by omega
    rcases h2 with rfl | rfl
    · rw [show (if nI 0 = 0 then 2 else 11 : Int32) = 2 from rfl, inR_k (K := 2) (n := 3) rfl (by decide)]
      exact ⟨fun z => Or.inl ⟨rfl, z⟩, fun z => z.elim (fun y => y.2) (fun y => absurd y.1 (by decide))⟩
    · rw [show (if nI 1 = 0 then 2 else 11 : Int32) = 11 from rfl, inR_k (K := 11) (n := 12) rfl (by decide)]
      exact ⟨fun z => Or.inr ⟨rfl, z⟩, fun z => z.elim (fun y => absurd y.1 (by decide)) (fun y => y.2)⟩
  refine ⟨fun e2 => ⟨w1.1.1.1, _, r_keep w1.1.1 d1.1 d1.2.1 hn, ?_⟩, fun e2 => AQ.ref w1.1.1 sA1 d1 (ite'_f fun z => i2.mpr z e2)⟩
  rintro h20 ⟨k20, A20⟩
  obtain ⟨d20, g20⟩ := d1.keep k20 A20
  have w20 := w1.sA g20
  have v2 := w20.1.1.row 2 2 312 (by decide)
  have hc := i2.mp e2
  obtain ⟨K, hK9, rfl⟩ := i1.mp e
  have ek : (2 : Int32) + nI K = nI (2 + K) := nI_add 2 K
  have ekc : (nI K).toNatClampNeg = K := nI_clamp (by omega)
  have vk : vp_in ((2 : Int32) + nI K) (hK h20 (mo + 2)).2 := by rw [ek, v2.2.2]; exact vp_in_nI (by omega) (by decide)
  have ea : aRule D (nI K) v = (D.1 (2 + K), dKeep D (up D.1 (2 + K) v)) := by
    unfold aRule
    rw [ekc]
    exact ite'_t hc
  have ss : SB [2, 11] mo h20 (sI h20 (mo + 2) (2 + K) v) := ⟨rfl, rfl, rfl, fun b hb j => gIa _ _ _ _ (hb 2 (by decide))⟩
  refine ⟨w20.1.1.1, mo + 2, v2.1, v2.2.1, vk, vk, ?_⟩
  rw [ek, nI_clamp (by omega)]
  refine ⟨_, rfl, (sA1.trans g20).trans (ss.sA (by decide)), ?_, ?_⟩
  · rw [ea]; exact d20.1.at _ (by omega)
  · rw [ea]
    refine d20.row ss (fun j hj => ?_)
    by_cases z : j = 2 + K
    · rw [z, up_eq]; exact gI _ _ _ _
    · rw [up_ne z]; exact (gIk _ _ _ z).trans (d20.1 j hj)
theorem p_undo (w : MW mo g) (d : DK mo g D) (hn : D.2.1.1 ≤ 40) : CI l x mX8_undo 0 0 0 [.ref mo] g (fun r h' => AQ mo g (aUndo D) r h') := by
  have w1 : MW mo (sI g mo 1 0) := w
  have d1 : DK mo (sI g mo 1 0) D := d.s1
  refine Cm.of (by decide) (Nat.le_of_ble_eq_true rfl) (vX8_undo_0 ⟨w.1, ?_⟩)
  rw [d.2.1.1]
  refine ⟨fun e => ?_, fun e => ?_⟩
  · have h0 : ¬ D.2.1.1 = 0 := fun z => e (by rw [z]; rfl)
    obtain ⟨n, hn'⟩ : ∃ n, D.2.1.1 = n + 1 := ⟨D.2.1.1 - 1, by omega⟩
    have ea : aUndo D = (nI n, (D.2.1.2 n, (n, D.2.1.2), D.2.2.1, D.2.2.2)) := by
      unfold aUndo
      rw [if_neg h0, hn', show n + 1 - 1 = n by omega]
    rw [hn', nI_pred]
    have loop : ∀ (i k : Nat) (h : PH), k + i = 312 → SG (scrA mo) g h → hI h mo 24 = nI n → (∀ i, i < n + 1 → ∀ j, j < 312 → hI h (mo + 13) (312 * i + j) = D.2.1.2 i j) → NT mo h D.2.2.1.1 D.2.2.1.2.1 D.2.2.1.2.2 → ST3 mo h D.2.2.2 → (∀ j, j < k → hI h (mo + 2) j = D.2.1.2 n j) → Gm l x mX8_undo 0 26 [(0, .ref mo), (1, .int (nI k))] [] h 0 0 (hN g) (fun v h' => ∃ r, v = some (.int r) ∧ AQ mo g (aUndo D) r h') (fun _ _ => False) := by
      intro i
      induction i with
      | zero =>
        intro k h hk sh h4 hp ht hs hr
        obtain rfl : k = 312 := by omega
        refine vX8_undo_26 ⟨fun _ => ⟨(sh.mw w).1, _, rfl, sh, ?_, ?_⟩, fun z => absurd (by decide) z⟩
        · rw [ea]; exact h4
        · rw [ea]
          exact ⟨hr, ⟨h4, fun i hi => hp i (Nat.lt_succ_of_lt hi)⟩, ht, hs⟩
      | succ i ih =>
        intro k h hk sh h4 hp ht hs hr
        have wh := sh.mw w
        have v2 := wh.row 2 2 312 (by decide)
        have v13 := wh.row 25 13 12480 (by decide)
        have ei : (312 : Int32) * hI h mo 24 + nI k = nI (312 * n + k) := by
          rw [h4]
          show nI 312 * nI n + nI k = _
          rw [nI_mul, nI_add]
        refine vX8_undo_26 ⟨fun z => absurd z (nI_ge (b := 312) (by omega) (by decide)), fun _ => ⟨wh.1, mo + 2, v2.1, mo + 13, v13.1, v13.2.1, by rw [v13.2.2, ei]; exact vp_in_nI (by omega) (by decide), v2.2.1, by rw [v2.2.2]; exact vp_in_nI (by omega) (by decide), ?_⟩⟩
        rw [ei, nI_clamp (by omega), nI_clamp (by omega), nI_1, hp n (by omega) k (by omega)]
        refine ih (k + 1) _ (by omega) (sh.trans (SG.sI (Or.inl rfl))) ?_ (fun i' hi' j hj => ?_) ⟨?_, fun i' hi' => ⟨?_, ?_⟩⟩ (fun i' hi' => ?_) (fun j hj => ?_)
        · rw [gIa _ _ _ _ (by omega)]; exact h4
        · rw [gIa _ _ _ _ (by omega)]; exact hp i' hi' j hj
        · rw [gIa _ _ _ _ (by omega)]; exact ht.1
        · rw [gIa _ _ _ _ (by omega)]; exact (ht.2 i' hi').1
        · rw [gIa _ _ _ _ (by omega)]; exact (ht.2 i' hi').2
        · rw [gIa _ _ _ _ (by omega)]; exact hs i' hi'
        · by_cases z : j = k
          · rw [z]; exact gI _ _ _ _
          · rw [gIk _ _ _ z]; exact hr j (by omega)
    refine loop 312 0 _ rfl (sA1.trans (SG.sI (Or.inr (Or.inr (Or.inr ⟨rfl, Or.inr (Or.inl rfl)⟩))))) (gI _ _ _ _) (fun i hi j hj => ?_) ⟨?_, fun i hi => ⟨?_, ?_⟩⟩ (fun i hi => ?_) (fun j z => absurd z (Nat.not_lt_zero j))
    · rw [gIa _ _ _ _ (by omega)]; exact d1.2.1.2 i (by omega) j hj
    · rw [gIk _ _ _ (by decide)]; exact d1.2.2.1.1
    · rw [gIa _ _ _ _ (by omega)]; exact (d1.2.2.1.2 i hi).1
    · rw [gIa _ _ _ _ (by omega)]; exact (d1.2.2.1.2 i hi).2
    · rw [gIa _ _ _ _ (by omega)]; exact d1.2.2.2 i hi
  · have h0 : D.2.1.1 = 0 := (nI_eq (b := 0) (by omega) (by decide)).mp e
    refine ⟨_, rfl, sA1, ?_, ?_⟩
    · rw [aUndo, if_pos h0]
    · rw [aUndo, if_pos h0]; exact d1
theorem p_note {r tm : Int32} (w : RX mo t ct rt g) (d : DK mo g D) (T : TD t ct rt nc nf nr) (h8 : D.2.2.1.1 ≤ 8) : CI l x mX8_note 1 0 0 [.ref mo, .int r, .int tm] g (fun v h' => AQ mo g (aNote nr D r tm) v h') := by
  have h20 := T.r20
  have w1 : RX mo t ct rt (sI g mo 1 0) := w.sg s10
  have d1 : DK mo (sI g mo 1 0) D := d.s1
  have w4 := w.1.1.row 4 4 7 (by decide)
  have ref : ∀ h' : PH, MW mo h' → SG (scrA mo) g h' → DK mo h' D → aNote nr D r tm = (-1, dRef D 2) → (hK h' mo).1 = 8 ∧ ∃ q : Int32 → PH → Prop, CI l x mX8_refuse 0 0 0 [.ref mo, .int 2] h' q ∧ ∀ (r' : Int32) (h2 : PH), q r' h2 → ∃ r9, some (Value.int r') = some (.int r9) ∧ AQ mo g (aNote nr D r tm) r9 h2 := by
    intro h' w' s' d' e
    rw [e]
    refine ⟨w'.1, _, c_refuse (k := 2) w' (by decide), ?_⟩
    rintro _ _ ⟨rfl, rfl⟩
    exact ⟨_, rfl, s'.trans sA3, rfl, d'.ref (by decide)⟩
  have i1 : (¬ (if r < 0 then 0 else (if nI nr - 1 < r then 0 else 1 : Int32) : Int32) = 0) ↔ inR r nr := inR_in (by omega)
  have i2 : (¬ (if tm < 0 then 0 else (if 199 < tm then 0 else 1 : Int32) : Int32) = 0) ↔ inR tm 200 := inR_k (n := 200) rfl (by decide)
  refine Cm.of (by decide) (Nat.le_of_ble_eq_true rfl) (vX8_note_0 ⟨w.1.1.1, ?_⟩)
  rw [d.2.2.1.1]
  refine ⟨fun e => (ref _ w1.1.1 sA1 d1 (ite'_f fun z => z.1 ((nI_eq (b := 8) (by omega) (by decide)).mp e))).2, fun e => ⟨mo + 4, w4.1, w4.2.1, by rw [w4.2.2]; exact vp_in_nI (n := 2) (by decide) (by decide), ?_⟩⟩
  rw [show hI (sI g mo 1 0) (mo + 4) (Int32.toNatClampNeg 2) = nI nr from (w1.1.2.1 2).trans T.t2]
  refine ⟨_, c_isIn, ?_⟩
  rintro _ _ ⟨rfl, rfl⟩
  refine ⟨fun e2 => ref _ w1.1.1 sA1 d1 (ite'_f fun z => i1.mpr z.2.1 e2), fun e2 => ⟨_, c_isIn, ?_⟩⟩
  rintro _ _ ⟨rfl, rfl⟩
  refine ⟨fun e3 => ?_, fun e3 => ref _ w1.1.1 sA1 d1 (ite'_f fun z => i2.mpr z.2.2 e3)⟩
  have h9 : ¬ D.2.2.1.1 = 8 := fun z => e (by rw [z]; rfl)
  have ea : aNote nr D r tm = (nI (D.2.2.1.1 + 1), (D.1, D.2.1, (D.2.2.1.1 + 1, up D.2.2.1.2.1 D.2.2.1.1 r, up D.2.2.1.2.2 D.2.2.1.1 tm), D.2.2.2)) := ite'_t ⟨h9, i1.mp e2, i2.mp e3⟩
  have w14 := w1.1.1.row 27 14 8 (by decide)
  have w15 := w1.1.1.row 28 15 8 (by decide)
  have e26 : hI (sI g mo 1 0) mo 26 = nI D.2.2.1.1 := d1.2.2.1.1
  rw [ea]
  generalize hkk : D.2.2.1.1 = kk at *
  have g14 : ∀ v : Int32, hI (sI (sI g mo 1 0) (mo + 14) kk v) mo 26 = nI kk := fun v => (gIa _ _ _ _ (by omega)).trans e26
  have g15 : ∀ v v' : Int32, hI (sI (sI (sI g mo 1 0) (mo + 14) kk v) (mo + 15) kk v') mo 26 = nI kk := fun v v' => (gIa _ _ _ _ (by omega)).trans (g14 v)
  rw [e26, nI_clamp (by omega)]
  refine ⟨w1.1.1.1, mo + 14, w14.1, w14.2.1, by rw [w14.2.2]; exact vp_in_nI (by omega) (by decide), mo + 15, w15.1, w15.2.1, ?_, ?_⟩
  · rw [g14]
    show vp_in _ (hK (sI g mo 1 0) (mo + 15)).2
    rw [w15.2.2]; exact vp_in_nI (by omega) (by decide)
  · rw [g14, nI_clamp (by omega), g15, nI_1, gI]
    refine ⟨_, rfl, ?_, rfl, ⟨fun j hj => ?_, ⟨?_, fun i hi j hj => ?_⟩, ⟨gI _ _ _ _, fun i hi => ⟨?_, ?_⟩⟩, fun i hi => ?_⟩⟩
    · exact ((sA1.trans (SG.sI (Or.inr (Or.inr (Or.inl ⟨by omega, by omega⟩))))).trans (SG.sI (Or.inr (Or.inr (Or.inl ⟨by omega, by omega⟩))))).trans (SG.sI (Or.inr (Or.inr (Or.inr ⟨rfl, Or.inr (Or.inr (Or.inl rfl))⟩))))
    · rw [gIa _ _ _ _ (by omega), gIa _ _ _ _ (by omega), gIa _ _ _ _ (by omega)]; exact d1.1 j hj
    · rw [gIk _ _ _ (by decide), gIa _ _ _ _ (by omega), gIa _ _ _ _ (by omega)]; exact d1.2.1.1
    · rw [gIa _ _ _ _ (by omega), gIa _ _ _ _ (by omega), gIa _ _ _ _ (by omega)]; exact d1.2.1.2 i hi j hj
    · rw [gIa _ _ _ _ (by omega), gIa _ _ _ _ (by omega)]
      show _ = up D.2.2.1.2.1 kk r i
      by_cases z : i = kk
      · rw [z, up_eq]; exact gI _ _ _ _
      · rw [up_ne z, gIk _ _ _ z]
        exact (d1.2.2.1.2 i (by rw [hkk]; have : i < kk + 1 := hi; omega)).1
    · rw [gIa _ _ _ _ (by omega)]
      show _ = up D.2.2.1.2.2 kk tm i
      by_cases z : i = kk
      · rw [z, up_eq]; exact gI _ _ _ _
      · rw [up_ne z, gIk _ _ _ z, gIa _ _ _ _ (by omega)]
        exact (d1.2.2.1.2 i (by rw [hkk]; have : i < kk + 1 := hi; omega)).2
    · rw [gIa _ _ _ _ (by omega), gIa _ _ _ _ (by omega), gIa _ _ _ _ (by omega)]; exact d1.2.2.2 i hi
theorem p_forget (w : MW mo g) (d : DK mo g D) : CV l x mX8_forget 0 0 0 [.ref mo] g (fun h' => SG (scrA mo) g h' ∧ DK mo h' (dForget D)) := by
  have d1 : DK mo (sI g mo 1 0) D := d.s1
  refine Cm.of (by decide) (Nat.le_of_ble_eq_true rfl) (vX8_forget_0 ⟨w.1, rfl, sA1.trans (SG.sI (Or.inr (Or.inr (Or.inr ⟨rfl, Or.inr (Or.inr (Or.inl rfl))⟩)))), d1.1.s1, ⟨(gIk _ _ _ (by decide)).trans d1.2.1.1, fun i hi j hj => (gIa _ _ _ _ (by omega)).trans (d1.2.1.2 i hi j hj)⟩, ⟨gI _ _ _ _, fun i z => absurd z (Nat.not_lt_zero i)⟩, fun i hi => (gIa _ _ _ _ (by omega)).trans (d1.2.2.2 i hi)⟩)
end Acts2
