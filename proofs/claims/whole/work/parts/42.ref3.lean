/-! THE REFERENCE, THIRD PART: a count of bits, fullness, stops -/
def bc (a : Int32) : Int32 :=
  let b := a - ((ius a 1) &&& 1431655765)
  let c := (b &&& 858993459) + ((ius b 2) &&& 858993459)
  let e := (c + (ius c 4)) &&& 252645135
  let g := e + (ius e 8)
  let i := g + (ius g 16)
  i &&& 63
theorem c_bitCount {l : Launch} {x : CX} {a : Int32} {g : PH} : CI l x mJ6_bitCount_0f7a4 0 0 0 [.int a] g (fun r h' => r = bc a ∧ h' = g) := by
  refine Cm.of (by decide) (Nat.le_of_ble_eq_true rfl) (vJ6_bitCount_0f7a4_0 ?_)
  intro y1 e1 y3 e3
  exact ⟨_, rfl, by rw [e3, e1]; rfl, rfl⟩
/-- the car is full -/
def fullC (f : Nat → Int32) (c : Nat) : Int32 := if bc (f (16 + 8 * c + 3)) = f (16 + 8 * c + 7) then 1 else 0
theorem fullC_01 (f : Nat → Int32) (c : Nat) : fullC f c = 0 ∨ fullC f c = 1 := by unfold fullC; split <;> simp
def abit (a : Int32) (r : Nat) : Int32 := (a >>> (nI r &&& 31)) &&& 1
/-- stops of those aboard among the first r riders -/
def stA (f : Nat → Int32) (c : Nat) : Nat → Int32
  | 0 => 0
  | r + 1 => if abit (f (16 + 8 * c + 3)) r = 1 then stA f c r ||| (1 <<< (f (48 + 9 * r + 3) &&& 31)) else stA f c r
/-- and of calls, at the first k floors -/
def stB (f : Nat → Int32) (c : Nat) (s : Int32) : Nat → Int32
  | 0 => s
  | k + 1 => if hasC f c k 1 = 0 then (if hasC f c k (-1) = 0 then stB f c s k ||| 0 else stB f c s k ||| (1 <<< (nI k &&& 31))) else stB f c s k ||| (1 <<< (nI k &&& 31))
def stopsC (f : Nat → Int32) (nr nf c : Nat) : Int32 := if fullC f c = 0 then stB f c (stA f c nr) nf else stA f c nr
def isStopC (f : Nat → Int32) (nr nf c : Nat) (y : Int32) : Int32 :=
  if y ≤ 0 then (if 0 ≤ y then 0 else (if (stopsC f nr nf c &&& ((1 <<< (f (16 + 8 * c) &&& 31)) - 1)) = 0 then 0 else 1)) else (if (stopsC f nr nf c >>> ((f (16 + 8 * c) + 1) &&& 31)) = 0 then 0 else 1)
def turnedC (f : Nat → Int32) (nr nf c : Nat) (y : Int32) : Int32 :=
  if y = 0 then (if isStopC f nr nf c 1 = 0 then (if isStopC f nr nf c (-1) = 0 then 0 else -1) else 1) else (if isStopC f nr nf c (-y) = 0 then 0 else -y)
section Ref3
variable {l : Launch} {x : CX} {mo : Nat} {h : PH} {f : Nat → Int32}
theorem c_isFull {c : Nat} (w : MW mo h) (hc : c < 4) : CI l x mX8_isFull 1 0 0 [.ref mo, .int (nI c)] (NW mo h f) (fun v h' => v = fullC f c ∧ h' = NW mo h f) := by
  refine Cm.of (by decide) (Nat.le_of_ble_eq_true rfl) (vX8_isFull_0 ⟨w.1, _, c_carOf (k := 3) w hc (by decide), ?_⟩)
  rintro _ _ ⟨rfl, rfl⟩
  refine ⟨_, c_bitCount, ?_⟩
  rintro _ _ ⟨rfl, rfl⟩
  refine ⟨w.1, _, c_carOf (k := 7) w hc (by decide), ?_⟩
  rintro _ _ ⟨rfl, rfl⟩
  exact ⟨fullC_01 f c, _, rfl, rfl, rfl⟩
theorem told0 {nf : Nat} (ht : hI h (mo + 4) 0 = nI nf) : hI (NW mo h f) (mo + 4) (Int32.toNatClampNeg 0) = nI nf := by
  rw [hI_rw, if_neg (by omega)]
  exact ht
theorem l_stops2 {nr nf c : Nat} {s : Int32} {rc rs n0 : Nat} {X : String → PH → Prop} (w : MW mo h) (hc : c < 4) (ht : hI h (mo + 4) 0 = nI nf) (hnf : nf ≤ 12) (hfull : fullC f c = 0) : ∀ (m i : Nat), i + m = nf → Gm l x mX8_stops 2 48 [(0, .ref mo), (1, .int (nI c)), (2, .int (stB f c s i)), (3, .int (nI i))] [] (NW mo h f) rc rs n0 (fun v h' => ∃ r, v = some (.int r) ∧ r = stB f c s nf ∧ h' = NW mo h f) X := by
  have w4 := w.row 4 4 7 (by decide)
  have i0 : vp_in 0 (hK h (mo + 4)).2 := by rw [w4.2.2]; exact vp_in_nI (n := 0) (by decide) (by decide)
  intro m
  induction m with
  | zero =>
    intro i hi
    obtain rfl : i = nf := by omega
    refine vX8_stops_48 ⟨w.1, mo + 4, w4.1, w4.2.1, i0, fun _ => ⟨_, rfl, rfl, rfl⟩, fun e => absurd ?_ e⟩
    rw [told0 ht]
    exact nI_le (Nat.le_refl _) (by omega)
  | succ m ih =>
    intro i hi
    have hi12 : i < 12 := by omega
    refine vX8_stops_48 ⟨w.1, mo + 4, w4.1, w4.2.1, i0, fun e => absurd e ?_, fun _ => ⟨_, c_isFull w hc, ?_⟩⟩
    · rw [told0 ht]
      exact nI_ge (by omega) (by omega)
    · rintro _ _ ⟨rfl, rfl⟩
      refine ⟨fun e => absurd hfull e, fun _ => ⟨w.1, _, c_hasCall (y := 1) w hi12, ?_⟩⟩
      rintro _ _ ⟨rfl, rfl⟩
      have h1 := ih (i + 1) (by omega)
      rw [← nI_1] at h1
      refine ⟨fun e1 => ?_, fun e1 => ⟨w.1, _, c_hasCall (y := -1) w hi12, ?_⟩⟩
      · rw [show stB f c s (i + 1) = stB f c s i ||| (1 <<< (nI i &&& 31)) from by simp only [stB, if_neg e1]] at h1
        exact h1
      · rintro _ _ ⟨rfl, rfl⟩
        intro y ey
        rw [show stB f c s (i + 1) = y from by
          rw [ey]
          simp only [stB, if_pos e1]
          by_cases e2 : hasC f c i (-1) = 0
          · rw [if_pos e2, if_pos e2]
          · rw [if_neg e2, if_neg e2]] at h1
        exact h1
theorem l_stops1 {nr nf c : Nat} {rc rs n0 : Nat} {X : String → PH → Prop} (w : MW mo h) (hc : c < 4) (hf : f 6 = nI nr) (hnr : nr ≤ 24) (ht : hI h (mo + 4) 0 = nI nf) (h0 : 0 < nf) (hnf : nf ≤ 12) : ∀ (m i : Nat), i + m = nr → Gm l x mX8_stops 2 4 [(0, .ref mo), (1, .int (nI c)), (2, .int (stA f c i)), (3, .int (nI i))] [] (NW mo h f) rc rs n0 (fun v h' => ∃ r, v = some (.int r) ∧ r = stopsC f nr nf c ∧ h' = NW mo h f) X := by
  have w2 := w.row 2 2 312 (by decide)
  have w4 := w.row 4 4 7 (by decide)
  have i6 : vp_in 6 (hK h (mo + 2)).2 := by rw [w2.2.2]; exact vp_in_nI (n := 6) (by decide) (by decide)
  have i0 : vp_in 0 (hK h (mo + 4)).2 := by rw [w4.2.2]; exact vp_in_nI (n := 0) (by decide) (by decide)
  intro m
  induction m with
  | zero =>
    intro i hi
    obtain rfl : i = nr := by omega
    refine vX8_stops_4 ⟨w.1, mo + 2, w2.1, w2.2.1, i6, fun _ => ?_, fun e => absurd ?_ e⟩
    · by_cases hfull : fullC f c = 0
      · have h1 := l_stops2 (l := l) (x := x) (rc := rc) (rs := rs) (n0 := n0) (X := X) (s := stA f c i) (nr := i) w hc ht hnf hfull nf 0 (by omega)
        rw [show stB f c (stA f c i) nf = stopsC f i nf c from by simp only [stopsC, if_pos hfull]] at h1
        exact h1
      · refine vX8_stops_48 ⟨w.1, mo + 4, w4.1, w4.2.1, i0, fun e => absurd e ?_, fun _ => ⟨_, c_isFull w hc, ?_⟩⟩
        · rw [told0 ht]
          exact nI_ge (a := 0) h0 (by omega)
        · rintro _ _ ⟨rfl, rfl⟩
          exact ⟨fun _ => ⟨_, rfl, by simp only [stopsC, if_neg hfull], rfl⟩, fun e => absurd e hfull⟩
    · rw [now6 hf]
      exact nI_le (Nat.le_refl _) (by omega)
  | succ m ih =>
    intro i hi
    have hlt : i < 24 := by omega
    refine vX8_stops_4 ⟨w.1, mo + 2, w2.1, w2.2.1, i6, fun e => absurd e ?_, fun _ => ⟨_, c_carOf (k := 3) w hc (by decide), ?_⟩⟩
    · rw [now6 hf]
      exact nI_ge (by omega) (by omega)
    · rintro _ _ ⟨rfl, rfl⟩
      have h1 := ih (i + 1) (by omega)
      rw [← nI_1] at h1
      refine ⟨fun e => ?_, fun e => ⟨w.1, _, c_of (k := 3) w hlt (by decide), ?_⟩⟩
      · rw [show stA f c (i + 1) = stA f c i from if_neg e] at h1
        exact h1
      · rintro _ _ ⟨rfl, rfl⟩
        rw [show stA f c (i + 1) = stA f c i ||| (1 <<< (f (48 + 9 * i + 3) &&& 31)) from if_pos e] at h1
        exact h1
theorem c_stops {nr nf c : Nat} (w : MW mo h) (hc : c < 4) (hf : f 6 = nI nr) (hnr : nr ≤ 24) (ht : hI h (mo + 4) 0 = nI nf) (h0 : 0 < nf) (hnf : nf ≤ 12) : CI l x mX8_stops 2 0 0 [.ref mo, .int (nI c)] (NW mo h f) (fun v h' => v = stopsC f nr nf c ∧ h' = NW mo h f) :=
  Cm.of (by decide) (Nat.le_of_ble_eq_true rfl) (vX8_stops_0 (l_stops1 w hc hf hnr ht h0 hnf nr 0 (by omega)))
theorem c_isStop {nr nf c : Nat} {y : Int32} (w : MW mo h) (hc : c < 4) (hf : f 6 = nI nr) (hnr : nr ≤ 24) (ht : hI h (mo + 4) 0 = nI nf) (h0 : 0 < nf) (hnf : nf ≤ 12) : CI l x mX8_isStop 3 0 0 [.ref mo, .int (nI c), .int y] (NW mo h f) (fun v h' => v = isStopC f nr nf c y ∧ h' = NW mo h f) := by
  refine Cm.of (by decide) (Nat.le_of_ble_eq_true rfl) (vX8_isStop_0 ⟨w.1, _, c_carOf (k := 0) w hc (by decide), ?_⟩)
  rintro _ _ ⟨rfl, rfl⟩
  refine ⟨w.1, _, c_stops w hc hf hnr ht h0 hnf, ?_⟩
  rintro _ _ ⟨rfl, rfl⟩
  refine ⟨?_, _, rfl, rfl, rfl⟩
  repeat' split
  all_goals decide
theorem c_turned {nr nf c : Nat} {y : Int32} (w : MW mo h) (hc : c < 4) (hf : f 6 = nI nr) (hnr : nr ≤ 24) (ht : hI h (mo + 4) 0 = nI nf) (h0 : 0 < nf) (hnf : nf ≤ 12) : CI l x mX8_turned 4 0 0 [.ref mo, .int (nI c), .int y] (NW mo h f) (fun v h' => v = turnedC f nr nf c y ∧ h' = NW mo h f) := by
  refine Cm.of (by decide) (Nat.le_of_ble_eq_true rfl) (vX8_turned_0 ⟨fun e => ⟨w.1, _, c_isStop w hc hf hnr ht h0 hnf, ?_⟩, fun e => ⟨w.1, _, c_isStop w hc hf hnr ht h0 hnf, ?_⟩⟩)
  · rintro _ _ ⟨rfl, rfl⟩
    refine ⟨fun e1 => ⟨w.1, _, c_isStop w hc hf hnr ht h0 hnf, ?_⟩, fun e1 => ⟨_, rfl, ?_, rfl⟩⟩
    · rintro _ _ ⟨rfl, rfl⟩
      exact ⟨_, rfl, by simp only [turnedC, if_pos e, if_pos e1], rfl⟩
    · simp only [turnedC, if_pos e, if_neg e1]
  · rintro _ _ ⟨rfl, rfl⟩
    exact ⟨_, rfl, by simp only [turnedC, if_neg e], rfl⟩
def arrivesR (f : Nat → Int32) (r : Nat) : Nat → Int32 := up (up (up f (48 + 9 * r + 4) 3) (48 + 9 * r + 5) (-1)) (48 + 9 * r + 7) (f 0)
theorem c_arrives {r : Nat} (w : MW mo h) (hr : r < 24) : CV l x mX8_arrives 1 0 0 [.ref mo, .int (nI r)] (NW mo h f) (fun h' => h' = NW mo h (arrivesR f r)) := by
  have w2 := w.row 2 2 312 (by decide)
  refine Cm.of (by decide) (Nat.le_of_ble_eq_true rfl) (vX8_arrives_0 ⟨w.1, _, c_put (k := 4) w hr (by decide), ?_⟩)
  rintro _ rfl
  refine ⟨w.1, _, c_put (k := 5) w hr (by decide), ?_⟩
  rintro _ rfl
  refine ⟨w.1, mo + 2, w2.1, w2.2.1, ?_, _, c_put (k := 7) w hr (by decide), ?_⟩
  · show vp_in 0 (hK h (mo + 2)).2
    rw [w2.2.2]
    exact vp_in_nI (n := 0) (by decide) (by decide)
  · rintro _ rfl
    refine ⟨rfl, ?_⟩
    rw [hI_rws]
    have e : up (up f (48 + 9 * r + 4) 3) (48 + 9 * r + 5) (-1) (Int32.toNatClampNeg 0) = f 0 := by
      show up (up f (48 + 9 * r + 4) 3) (48 + 9 * r + 5) (-1) 0 = f 0
      simp only [up]
      rw [if_neg (by omega), if_neg (by omega)]
    rw [e]
    rfl
end Ref3
