/-! THE REFERENCE, FIFTH PART: a car goes, opens here or not, is emptied -/
theorem up_ne {f : Nat → Int32} {k j : Nat} {v : Int32} (hj : j ≠ k) : up f k v j = f j := if_neg hj
theorem up_eq {f : Nat → Int32} {k : Nat} {v : Int32} : up f k v k = v := if_pos rfl
/-- numbers of a row that its methods lean on: riders, floors, who came; what was told -/
def RV (mo : Nat) (h : PH) (f t : Nat → Int32) (nr nf m : Nat) : Prop := f 6 = nI nr ∧ nr ≤ 24 ∧ hI h (mo + 4) 0 = nI nf ∧ 0 < nf ∧ nf ≤ 12 ∧ f 7 = nI m ∧ m < 100000 ∧ ∀ k, hI h (mo + 4) k = t k
/-- a car's floor, how many are aboard, its work is a number -/
def CVd (f : Nat → Int32) (c fl n : Nat) : Prop := f (16 + 8 * c) = nI fl ∧ fl < 12 ∧ bc (f (16 + 8 * c + 3)) = nI n ∧ n < 7 ∧ Fok (f (16 + 8 * c + 5)).toUInt32
def goW (f : Nat → Int32) (nr nf c : Nat) : Int32 :=
  if f (16 + 8 * c + 1) = 0 then turnedC f nr nf c (f (16 + 8 * c + 1)) else if isStopC f nr nf c (f (16 + 8 * c + 1)) = 0 then turnedC f nr nf c (f (16 + 8 * c + 1)) else f (16 + 8 * c + 1)
def goesD (f t : Nat → Int32) (m c fl n : Nat) (y : Int32) : Nat → Int32 :=
  if y = 0 then (if f (16 + 8 * c) = parksC f t (min 8 m) c then f else movesC f c n (if parksC f t (min 8 m) c ≤ f (16 + 8 * c) then -1 else 1))
  else if fullC f c = 0 then movesC f c n y else if hasC f c fl y = 0 then movesC f c n y else movesC (up f 5 (f 5 + 1)) c n y
def goesC (f t : Nat → Int32) (nr nf m c fl n : Nat) : Nat → Int32 := goesD (up f (16 + 8 * c + 1) (goW f nr nf c)) t m c fl n (goW f nr nf c)
/-- those aboard among the first r riders are out at the floor y -/
def emA (f : Nat → Int32) (c : Nat) (y : Int32) : Nat → (Nat → Int32)
  | 0 => f
  | r + 1 => if abit (f (16 + 8 * c + 3)) r = 0 then emA f c y r else if f (48 + 9 * r + 3) = y then arrivesR (emA f c y r) r else up (up (emA f c y r) (48 + 9 * r + 4) 1) (48 + 9 * r + 5) y
def emptiesC (f : Nat → Int32) (c nr : Nat) : Nat → Int32 := up (emA f c (f (16 + 8 * c)) nr) (16 + 8 * c + 3) 0
/-- whether somebody aboard, not among the first r riders, is to get off at the floor y -/
def ohA (f : Nat → Int32) (c : Nat) (y : Int32) (nr : Nat) : Bool := (List.range nr).any (fun r => decide (abit (f (16 + 8 * c + 3)) r = 1 ∧ f (48 + 9 * r + 3) = y))
def ohB (f : Nat → Int32) (c fl : Nat) : Int32 := if hasC f c fl 1 = 0 then (if hasC f c fl (-1) = 0 then 0 else 1) else 1
def ohC (f : Nat → Int32) (nr nf c fl : Nat) (y : Int32) : Int32 :=
  if fullC f c = 0 then (if y = 0 then ohB f c fl else if hasC f c fl y = 0 then (if isStopC f nr nf c y = 0 then ohB f c fl else 0) else 1) else 0
def opensHereC (f : Nat → Int32) (nr nf c fl : Nat) : Int32 := if ohA f c (f (16 + 8 * c)) nr then 1 else ohC f nr nf c fl (f (16 + 8 * c + 1))
section Ref5
variable {l : Launch} {x : CX} {mo : Nat} {h : PH} {f t : Nat → Int32}
theorem RV.up {nr nf m k : Nat} {v : Int32} (r : RV mo h f t nr nf m) (h6 : k ≠ 6) (h7 : k ≠ 7) : RV mo h (up f k v) t nr nf m :=
  ⟨(up_ne (by omega)).trans r.1, r.2.1, r.2.2.1, r.2.2.2.1, r.2.2.2.2.1, (up_ne (by omega)).trans r.2.2.2.2.2.1, r.2.2.2.2.2.2.1, r.2.2.2.2.2.2.2⟩
theorem l_goes {nr nf m c fl n : Nat} {y : Int32} {rc rs n0 : Nat} {X : String → PH → Prop} (FB : FBits l x) (w : MW mo h) (hc : c < 4) (hr : RV mo h f t nr nf m) (hv : CVd f c fl n) : Gm l x mX8_goes 5 34 [(0, .ref mo), (1, .int (nI c)), (2, .int (nI fl)), (3, .int y)] [] (NW mo h f) rc rs n0 (fun v h' => v = none ∧ h' = NW mo h (goesD (up f (16 + 8 * c + 1) y) t m c fl n y)) X := by
  obtain ⟨v1, v2, v3, v4, v5⟩ := hv
  have w2 := w.row 2 2 312 (by decide)
  have i5 : vp_in 5 (hK h (mo + 2)).2 := by rw [w2.2.2]; exact vp_in_nI (n := 5) (by decide) (by decide)
  have r1 : RV mo h (up f (16 + 8 * c + 1) y) t nr nf m := hr.up (by omega) (by omega)
  have u0 : up f (16 + 8 * c + 1) y (16 + 8 * c) = nI fl := (up_ne (by omega)).trans v1
  have u3 : bc (up f (16 + 8 * c + 1) y (16 + 8 * c + 3)) = nI n := by rw [up_ne (by omega)]; exact v3
  have u5 : Fok (up f (16 + 8 * c + 1) y (16 + 8 * c + 5)).toUInt32 := by rw [up_ne (by omega)]; exact v5
  refine vX8_goes_34 ⟨w.1, _, c_putCar (k := 1) w hc (by decide), ?_⟩
  rintro _ rfl
  generalize up f (16 + 8 * c + 1) y = g at r1 u0 u3 u5 ⊢
  refine ⟨fun e => ⟨w.1, _, c_parks w hc r1.2.2.2.2.2.1 r1.2.2.2.2.2.2.1 rfl r1.2.2.2.2.2.2.2, ?_⟩, fun e => ⟨w.1, _, c_isFull w hc, ?_⟩⟩
  · rintro _ _ ⟨rfl, rfl⟩
    refine ⟨fun e1 => ⟨rfl, by simp only [goesD, if_pos e, u0, if_pos e1]⟩, fun e1 => ⟨w.1, _, c_parks w hc r1.2.2.2.2.2.1 r1.2.2.2.2.2.2.1 rfl r1.2.2.2.2.2.2.2, ?_⟩⟩
    rintro _ _ ⟨rfl, rfl⟩
    refine ⟨w.1, _, c_moves FB w hc u5 u3 v4, ?_⟩
    rintro _ rfl
    exact ⟨rfl, by simp only [goesD, if_pos e, u0, if_neg e1]⟩
  · rintro _ _ ⟨rfl, rfl⟩
    refine ⟨fun e1 => ⟨w.1, _, c_moves FB w hc u5 u3 v4, ?_⟩, fun e1 => ⟨w.1, _, c_hasCall w v2, ?_⟩⟩
    · rintro _ rfl
      exact ⟨rfl, by simp only [goesD, if_neg e, if_pos e1]⟩
    · rintro _ _ ⟨rfl, rfl⟩
      refine ⟨fun e2 => ⟨w.1, _, c_moves FB w hc u5 u3 v4, ?_⟩, fun e2 => ⟨w.1, mo + 2, w2.1, w2.2.1, i5, i5, ?_⟩⟩
      · rintro _ rfl
        exact ⟨rfl, by simp only [goesD, if_neg e, if_neg e1, if_pos e2]⟩
      · rw [hI_rws, sI_rws]
        refine ⟨_, c_moves (f := up g 5 (g 5 + 1)) FB w hc (by rw [up_ne (by omega)]; exact u5) (by rw [up_ne (by omega)]; exact u3) v4, ?_⟩
        rintro _ rfl
        exact ⟨rfl, by simp only [goesD, if_neg e, if_neg e1, if_neg e2]⟩
theorem c_goes {nr nf m c fl n : Nat} (FB : FBits l x) (w : MW mo h) (hc : c < 4) (hr : RV mo h f t nr nf m) (hv : CVd f c fl n) : CV l x mX8_goes 5 0 0 [.ref mo, .int (nI c)] (NW mo h f) (fun h' => h' = NW mo h (goesC f t nr nf m c fl n)) := by
  have go : ∀ y : Int32, goW f nr nf c = y → Gm l x mX8_goes 5 34 [(0, .ref mo), (1, .int (nI c)), (2, .int (f (16 + 8 * c + 0))), (3, .int y)] [] (NW mo h f) 0 0 (hN (NW mo h f)) (fun v h' => v = none ∧ h' = NW mo h (goesC f t nr nf m c fl n)) (fun _ _ => False) := by
    rintro _ rfl
    have h1 := l_goes (l := l) (x := x) (y := goW f nr nf c) (rc := 0) (rs := 0) (n0 := hN (NW mo h f)) (X := fun _ _ => False) FB w hc hr hv
    rw [← hv.1] at h1
    exact h1
  refine Cm.of (by decide) (Nat.le_of_ble_eq_true rfl) (vX8_goes_0 ⟨w.1, _, c_carOf (k := 0) w hc (by decide), ?_⟩)
  rintro _ _ ⟨rfl, rfl⟩
  refine ⟨w.1, _, c_carOf (k := 1) w hc (by decide), ?_⟩
  rintro _ _ ⟨rfl, rfl⟩
  refine ⟨fun e => ⟨w.1, _, c_turned w hc hr.1 hr.2.1 hr.2.2.1 hr.2.2.2.1 hr.2.2.2.2.1, ?_⟩, fun e => ⟨w.1, _, c_isStop w hc hr.1 hr.2.1 hr.2.2.1 hr.2.2.2.1 hr.2.2.2.2.1, ?_⟩⟩
  · rintro _ _ ⟨rfl, rfl⟩
    exact go _ (if_pos e)
  · rintro _ _ ⟨rfl, rfl⟩
    refine ⟨fun e1 => go _ ((if_neg e).trans (if_neg e1)), fun e1 => ⟨w.1, _, c_turned w hc hr.1 hr.2.1 hr.2.2.1 hr.2.2.2.1 hr.2.2.2.2.1, ?_⟩⟩
    rintro _ _ ⟨rfl, rfl⟩
    exact go _ ((if_neg e).trans (if_pos e1))
end Ref5
