/-! THE REFERENCE, FOURTH PART: work, moves, the peak, where a car parks, how it goes -/
theorem fcmp_self {a : UInt32} (h : Fok a) : FP.fcmp a a = some .eq := by
  show Jvm.FP.Core.order (Jvm.FP.Core.decode Jvm.FP.Core.b32 a.toNat) (Jvm.FP.Core.decode Jvm.FP.Core.b32 a.toNat) = some .eq
  rcases fp_dec h with ⟨c, q, e⟩ | e <;> rw [e] <;> simp [Jvm.FP.Core.order, compare, compareOfLessAndEq]
/-- what is still owed of Float.floatToIntBits (its class is no plain name: the entry needs 'rowless') -/
def FBits (l : Launch) (x : CX) : Prop := ∀ (a : UInt32) (g : PH), Fok a → CI l x mJxf58ca_floatToIntBits_5c35a 1 0 0 [.float a] g (fun r h' => r = a.toInt32 ∧ h' = g)
def tellsT (t : Nat → Int32) (k : Nat) : Int32 := if t k = -1 then (if k = 3 then 2 else if k = 5 then 1 else 0) else t k
def worksC (f : Nat → Int32) (c : Nat) (b : UInt32) : Nat → Int32 := up f (16 + 8 * c + 5) (FP.fadd (f (16 + 8 * c + 5)).toUInt32 b).toInt32
def upW (n : Nat) : UInt32 := FP.fadd 1060320051 (FP.fmul 1050253722 (FP.i2f (nI n)))
def dnW (n : Nat) : UInt32 := FP.fadd 1045220557 (FP.fmul 1036831949 (FP.i2f (nI n)))
theorem wOk : ∀ n, n < 7 → (FP.fmul 1050253722 (FP.i2f (nI n))).toNat ≤ 2139095040 ∧ (FP.fmul 1036831949 (FP.i2f (nI n))).toNat ≤ 2139095040 ∧ (upW n).toNat ≤ 2139095040 ∧ (dnW n).toNat ≤ 2139095040 := by decide +kernel
def movesC (f : Nat → Int32) (c n : Nat) (y : Int32) : Nat → Int32 := up (worksC f c (if y ≤ 0 then dnW n else upW n)) (16 + 8 * c) (f (16 + 8 * c) + y)
/-- how many of the last k that came came at floor 0 -/
def pkA (f : Nat → Int32) : Nat → Int32
  | 0 => 0
  | k + 1 => pkA f k + (if f (8 + k) = 0 then 1 else 0)
def peakC (f t : Nat → Int32) (k : Nat) : Int32 := if tellsT t 6 ≤ 0 then 0 else if pkA f k < tellsT t 6 then 0 else 1
def parksC (f t : Nat → Int32) (k c : Nat) : Int32 := if peakC f t k = 0 then f (16 + 8 * c + 6) else 0
section Ref4
variable {l : Launch} {x : CX} {mo : Nat} {h : PH} {f : Nat → Int32}
theorem c_tells {k : Nat} {g : PH} (w : MW mo g) (hk : k < 7) : CI l x mX8_tells 0 0 0 [.ref mo, .int (nI k)] g (fun v h' => v = tellsT (hI g (mo + 4)) k ∧ h' = g) := by
  have w4 := w.row 4 4 7 (by decide)
  have hin : vp_in (nI k) (hK g (mo + 4)).2 := by rw [w4.2.2]; exact vp_in_nI hk (by decide)
  have e3 : (nI k = 3) ↔ k = 3 := nI_eq (b := 3) (by omega) (by decide)
  have e5 : (nI k = 5) ↔ k = 5 := nI_eq (b := 5) (by omega) (by decide)
  refine Cm.of (by decide) (Nat.le_of_ble_eq_true rfl) (vX8_tells_0 ⟨w.1, mo + 4, w4.1, w4.2.1, hin, fun e => ⟨_, rfl, ?_, rfl⟩, fun e => ⟨hin, _, rfl, ?_, rfl⟩⟩)
  · rw [nI_clamp (by omega)] at e
    simp only [tellsT, if_pos e, e3, e5]
  · rw [nI_clamp (by omega)] at e ⊢
    simp only [tellsT, if_neg e]
theorem c_works {c : Nat} {b : UInt32} (FB : FBits l x) (w : MW mo h) (hc : c < 4) (hw : Fok (f (16 + 8 * c + 5)).toUInt32) (hb : Fok b) : CV l x mX8_works 2 0 0 [.ref mo, .int (nI c), .float b] (NW mo h f) (fun h' => h' = NW mo h (worksC f c b)) := by
  have ho := fadd_ok hw hb
  refine Cm.of (by decide) (Nat.le_of_ble_eq_true rfl) (vX8_works_0 ⟨w.1, _, c_carOf (k := 5) w hc (by decide), ?_⟩)
  rintro _ _ ⟨rfl, rfl⟩
  refine ⟨hw.s, ho.n, _, FB _ _ ho, ?_⟩
  rintro _ _ ⟨rfl, rfl⟩
  refine ⟨w.1, _, c_putCar (k := 5) w hc (by decide), ?_⟩
  rintro _ rfl
  exact ⟨rfl, rfl⟩
theorem c_moves {c n : Nat} {y : Int32} (FB : FBits l x) (w : MW mo h) (hc : c < 4) (hw : Fok (f (16 + 8 * c + 5)).toUInt32) (hb : bc (f (16 + 8 * c + 3)) = nI n) (hn : n < 7) : CV l x mX8_moves 3 0 0 [.ref mo, .int (nI c), .int y] (NW mo h f) (fun h' => h' = NW mo h (movesC f c n y)) := by
  obtain ⟨o1, o2, o3, o4⟩ := wOk n hn
  have o1 : Fok (FP.fmul 1050253722 (FP.i2f (nI n))) := o1
  have o2 : Fok (FP.fmul 1036831949 (FP.i2f (nI n))) := o2
  have o3 : Fok (upW n) := o3
  have o4 : Fok (dnW n) := o4
  have fin : ∀ b : UInt32, (if y ≤ 0 then dnW n else upW n) = b → Fok b → (hK (NW mo h f) mo).1 = 8 ∧ ∃ q : PH → Prop, CV l x mX8_works 2 0 0 [.ref mo, .int (nI c), .float b] (NW mo h f) q ∧ ∀ h17 : PH, q h17 → (hK h17 mo).1 = 8 ∧ ∃ q18 : Int32 → PH → Prop, CI l x mX8_carOf 0 0 0 [.ref mo, .int (nI c), .int 0] h17 q18 ∧ ∀ (r22 : Int32) (h21 : PH), q18 r22 h21 → (hK h21 mo).1 = 8 ∧ ∃ q23 : PH → Prop, CV l x mX8_putCar 0 0 0 [.ref mo, .int (nI c), .int 0, .int (r22 + y)] h21 q23 ∧ ∀ h26 : PH, q23 h26 → ((none : Option Value) = none ∧ h26 = NW mo h (movesC f c n y)) := by
    intro b eb hbk
    refine ⟨w.1, _, c_works FB w hc hw hbk, ?_⟩
    rintro _ rfl
    refine ⟨w.1, _, c_carOf (k := 0) w hc (by decide), ?_⟩
    rintro _ _ ⟨rfl, rfl⟩
    refine ⟨w.1, _, c_putCar (k := 0) w hc (by decide), ?_⟩
    rintro _ rfl
    refine ⟨rfl, ?_⟩
    have e : worksC f c b (16 + 8 * c + 0) = f (16 + 8 * c) := if_neg (by omega)
    rw [e, ← eb]
    rfl
  refine Cm.of (by decide) (Nat.le_of_ble_eq_true rfl) (vX8_moves_0 ⟨w.1, _, c_carOf (k := 3) w hc (by decide), ?_⟩)
  rintro _ _ ⟨rfl, rfl⟩
  refine ⟨_, c_bitCount, ?_⟩
  rintro _ _ ⟨rfl, rfl⟩
  rw [hb]
  refine ⟨fun e => ⟨o2.n, fun _ => ⟨o4.n, fin (dnW n) (if_pos e) o4⟩, fun e2 => absurd e e2⟩, fun e => ⟨o1.n, fun e2 => absurd e2 e, fun _ => ⟨o3.n, fin (upW n) (if_neg e) o3⟩⟩⟩
theorem l_isPeak {n : Nat} {t : Nat → Int32} {rc rs n0 : Nat} {X : String → PH → Prop} (w : MW mo h) (hn : n ≤ 8) (ht : ∀ k, hI h (mo + 4) k = t k) : ∀ (m i : Nat), i + m = n → Gm l x mX8_isPeak 1 17 [(0, .ref mo), (1, .int (nI n)), (2, .int (pkA f i)), (3, .int (nI i))] [] (NW mo h f) rc rs n0 (fun v h' => ∃ r, v = some (.int r) ∧ r = peakC f t n ∧ h' = NW mo h f) X := by
  have w2 := w.row 2 2 312 (by decide)
  have et : tellsT (hI (NW mo h f) (mo + 4)) 6 = tellsT t 6 := by
    have e6 : hI (NW mo h f) (mo + 4) 6 = t 6 := by rw [hI_rw, if_neg (by omega), ht]
    simp only [tellsT, e6]
  intro m
  induction m with
  | zero =>
    intro i hi
    obtain rfl : i = n := by omega
    refine vX8_isPeak_17 ⟨fun _ => ⟨w.1, _, c_tells (k := 6) (w.rw _ _) (by decide), ?_⟩, fun e => absurd (nI_le (Nat.le_refl _) (by omega)) e⟩
    rintro _ _ ⟨rfl, rfl⟩
    rw [et]
    refine ⟨fun e => ⟨by decide, _, rfl, by simp only [peakC, if_pos e], rfl⟩, fun e => ⟨w.1, _, c_tells (k := 6) (w.rw _ _) (by decide), ?_⟩⟩
    rintro _ _ ⟨rfl, rfl⟩
    rw [et]
    refine ⟨?_, _, rfl, by simp only [peakC, if_neg e], rfl⟩
    split <;> decide
  | succ m ih =>
    intro i hi
    have e8 : (8 : Int32) + nI i = nI (8 + i) := nI_add 8 i
    refine vX8_isPeak_17 ⟨fun e => absurd e (nI_ge (by omega) (by omega)), fun _ => ⟨w.1, mo + 2, w2.1, w2.2.1, ?_, ?_⟩⟩
    · show vp_in _ (hK h (mo + 2)).2
      rw [w2.2.2]
      exact in_nI e8 (by omega) (by decide)
    · intro y ey
      have h1 := ih (i + 1) (by omega)
      rw [← nI_1, show pkA f (i + 1) = y from by rw [ey, e8, nI_clamp (by omega), hI_rws]; rfl] at h1
      exact h1
theorem c_isPeak {n m : Nat} {t : Nat → Int32} (w : MW mo h) (h7 : f 7 = nI m) (hm : m < 100000) (hn : n = min 8 m) (ht : ∀ k, hI h (mo + 4) k = t k) : CI l x mX8_isPeak 1 0 0 [.ref mo] (NW mo h f) (fun v h' => v = peakC f t n ∧ h' = NW mo h f) := by
  have w2 := w.row 2 2 312 (by decide)
  refine Cm.of (by decide) (Nat.le_of_ble_eq_true rfl) (vX8_isPeak_0 ⟨w.1, mo + 2, w2.1, w2.2.1, ?_, ?_⟩)
  · show vp_in 7 (hK h (mo + 2)).2
    rw [w2.2.2]
    exact vp_in_nI (n := 7) (by decide) (by decide)
  · intro y ey
    have e7 : hI (NW mo h f) (mo + 2) (Int32.toNatClampNeg 7) = nI m := by rw [hI_rws]; exact h7
    rw [e7] at ey
    have hy : y = nI n := by
      rw [ey, hn]
      by_cases h8 : m < 8
      · rw [if_pos (show nI m < 8 from nI_lt (b := 8) h8 (by decide)), Nat.min_eq_right (by omega)]
      · rw [if_neg (show ¬ nI m < 8 from nI_nlt (b := 8) (by omega) (by omega)), Nat.min_eq_left (by omega)]
        rfl
    rw [hy]
    exact l_isPeak w (by omega) ht n 0 (by omega)
theorem c_parks {n m c : Nat} {t : Nat → Int32} (w : MW mo h) (hc : c < 4) (h7 : f 7 = nI m) (hm : m < 100000) (hn : n = min 8 m) (ht : ∀ k, hI h (mo + 4) k = t k) : CI l x mX8_parks 2 0 0 [.ref mo, .int (nI c)] (NW mo h f) (fun v h' => v = parksC f t n c ∧ h' = NW mo h f) := by
  refine Cm.of (by decide) (Nat.le_of_ble_eq_true rfl) (vX8_parks_0 ⟨w.1, _, c_isPeak w h7 hm hn ht, ?_⟩)
  rintro _ _ ⟨rfl, rfl⟩
  refine ⟨fun e => ⟨w.1, _, c_carOf (k := 6) w hc (by decide), ?_⟩, fun e => ⟨_, rfl, by simp only [parksC, if_neg e], rfl⟩⟩
  rintro _ _ ⟨rfl, rfl⟩
  exact ⟨_, rfl, by simp only [parksC, if_pos e], rfl⟩
end Ref4
