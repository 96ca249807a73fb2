/-! THE REFERENCE, SIXTH PART: emptied; opens here -/
theorem emA_ne {f : Nat → Int32} {c : Nat} {y : Int32} {j : Nat} : ∀ i : Nat, (∀ r, r < i → j ≠ 48 + 9 * r + 4 ∧ j ≠ 48 + 9 * r + 5 ∧ j ≠ 48 + 9 * r + 7) → emA f c y i j = f j
  | 0, _ => rfl
  | i + 1, hj => by
    have ih := emA_ne (f := f) (c := c) (y := y) i (fun r hr => hj r (by omega))
    obtain ⟨h4, h5, h7⟩ := hj i (by omega)
    unfold emA
    split
    · exact ih
    · split
      · unfold arrivesR
        rw [up_ne h7, up_ne h5, up_ne h4, ih]
      · rw [up_ne h5, up_ne h4, ih]
section Ref6
variable {l : Launch} {x : CX} {mo : Nat} {h : PH} {f t : Nat → Int32}
theorem l_empties {nr c : Nat} {y : Int32} {rc rs n0 : Nat} {X : String → PH → Prop} (w : MW mo h) (hc : c < 4) (hf : f 6 = nI nr) (hnr : nr ≤ 24) : ∀ (m i : Nat), i + m = nr → Gm l x mX8_empties 2 9 [(0, .ref mo), (1, .int (nI c)), (2, .int y), (3, .int (nI i))] [] (NW mo h (emA f c y i)) rc rs n0 (fun v h' => v = none ∧ h' = NW mo h (up (emA f c y nr) (16 + 8 * c + 3) 0)) X := by
  have w2 := w.row 2 2 312 (by decide)
  have i6 : vp_in 6 (hK h (mo + 2)).2 := by rw [w2.2.2]; exact vp_in_nI (n := 6) (by decide) (by decide)
  intro m
  induction m with
  | zero =>
    intro i hi
    obtain rfl : i = nr := by omega
    refine vX8_empties_9 ⟨w.1, mo + 2, w2.1, w2.2.1, i6, fun _ => ⟨_, c_putCar (k := 3) w hc (by decide), ?_⟩, fun e => absurd ?_ e⟩
    · rintro _ rfl
      exact ⟨rfl, rfl⟩
    · rw [now6 ((emA_ne i (fun r hr => ⟨by omega, by omega, by omega⟩)).trans hf)]
      exact nI_le (Nat.le_refl _) (by omega)
  | succ m ih =>
    intro i hi
    have hlt : i < 24 := by omega
    have h1 := ih (i + 1) (by omega)
    rw [← nI_1] at h1
    have e3 : emA f c y i (16 + 8 * c + 3) = f (16 + 8 * c + 3) := emA_ne i (fun r hr => ⟨by omega, by omega, by omega⟩)
    have et : emA f c y i (48 + 9 * i + 3) = f (48 + 9 * i + 3) := emA_ne i (fun r hr => ⟨by omega, by omega, by omega⟩)
    refine vX8_empties_9 ⟨w.1, mo + 2, w2.1, w2.2.1, i6, fun e => absurd e ?_, fun _ => ⟨_, c_carOf (k := 3) w hc (by decide), ?_⟩⟩
    · rw [now6 ((emA_ne i (fun r hr => ⟨by omega, by omega, by omega⟩)).trans hf)]
      exact nI_ge (by omega) (by omega)
    · rintro _ _ ⟨rfl, rfl⟩
      rw [e3]
      refine ⟨fun e => ⟨w.1, _, c_of (k := 3) w hlt (by decide), ?_⟩, fun e => ?_⟩
      · rintro _ _ ⟨rfl, rfl⟩
        rw [et]
        refine ⟨fun e2 => ⟨w.1, _, c_put (k := 4) w hlt (by decide), ?_⟩, fun e2 => ⟨w.1, _, c_arrives w hlt, ?_⟩⟩
        · rintro _ rfl
          refine ⟨w.1, _, c_put (k := 5) w hlt (by decide), ?_⟩
          rintro _ rfl
          rw [show emA f c y (i + 1) = up (up (emA f c y i) (48 + 9 * i + 4) 1) (48 + 9 * i + 5) y from (if_neg e).trans (if_neg e2)] at h1
          exact h1
        · rintro _ rfl
          rw [show emA f c y (i + 1) = arrivesR (emA f c y i) i from (if_neg e).trans (if_pos e2)] at h1
          exact h1
      · rw [show emA f c y (i + 1) = emA f c y i from if_pos e] at h1
        exact h1
theorem c_empties {nr c : Nat} (w : MW mo h) (hc : c < 4) (hf : f 6 = nI nr) (hnr : nr ≤ 24) : CV l x mX8_empties 2 0 0 [.ref mo, .int (nI c)] (NW mo h f) (fun h' => h' = NW mo h (emptiesC f c nr)) := by
  refine Cm.of (by decide) (Nat.le_of_ble_eq_true rfl) (vX8_empties_0 ⟨w.1, _, c_carOf (k := 0) w hc (by decide), ?_⟩)
  rintro _ _ ⟨rfl, rfl⟩
  exact l_empties w hc hf hnr nr 0 (by omega)
/-- behind all riders: by calls -/
theorem l_opensHere0 {nr nf m c fl : Nat} {y : Int32} {rc rs n0 : Nat} {X : String → PH → Prop} (w : MW mo h) (hc : c < 4) (hr : RV mo h f t nr nf m) (hfl : fl < 12) : Gm l x mX8_opensHere 4 17 [(0, .ref mo), (1, .int (nI c)), (2, .int (nI fl)), (3, .int y), (4, .int (nI nr))] [] (NW mo h f) rc rs n0 (fun v h' => ∃ r, v = some (.int r) ∧ r = ohC f nr nf c fl y ∧ h' = NW mo h f) X := by
  have w2 := w.row 2 2 312 (by decide)
  have i6 : vp_in 6 (hK h (mo + 2)).2 := by rw [w2.2.2]; exact vp_in_nI (n := 6) (by decide) (by decide)
  have hB : ∀ a : Int32, ohB f c fl = a → ∃ q15 : Int32 → PH → Prop, CI l x mX8_hasCall 1 0 0 [.ref mo, .int (nI c), .int (nI fl), .int 1] (NW mo h f) q15 ∧ ∀ (r19 : Int32) (h18 : PH), q15 r19 h18 → ((¬ r19 = 0 → ((1 : Int32) = 0 ∨ (1 : Int32) = 1) ∧ (∃ r, some (Value.int 1) = some (.int r) ∧ r = a ∧ h18 = NW mo h f)) ∧ (r19 = 0 → (hK h18 mo).1 = 8 ∧ ∃ q21 : Int32 → PH → Prop, CI l x mX8_hasCall 1 0 0 [.ref mo, .int (nI c), .int (nI fl), .int (-1)] h18 q21 ∧ ∀ (r25 : Int32) (h24 : PH), q21 r25 h24 → ((if r25 = 0 then 0 else 1 : Int32) = 0 ∨ (if r25 = 0 then 0 else 1 : Int32) = 1) ∧ (∃ r, some (Value.int (if r25 = 0 then 0 else 1 : Int32)) = some (.int r) ∧ r = a ∧ h24 = NW mo h f))) := by
    rintro _ rfl
    refine ⟨_, c_hasCall w hfl, ?_⟩
    rintro _ _ ⟨rfl, rfl⟩
    refine ⟨fun e => ⟨by decide, _, rfl, by simp only [ohB, if_neg e], rfl⟩, fun e => ⟨w.1, _, c_hasCall w hfl, ?_⟩⟩
    rintro _ _ ⟨rfl, rfl⟩
    refine ⟨?_, _, rfl, by simp only [ohB, if_pos e], rfl⟩
    split <;> decide
  refine vX8_opensHere_17 ⟨w.1, mo + 2, w2.1, w2.2.1, i6, fun _ => ⟨_, c_isFull w hc, ?_⟩, fun e => absurd ?_ e⟩
  · rintro _ _ ⟨rfl, rfl⟩
    refine ⟨fun ef => ⟨fun ey => ⟨fun _ => ⟨w.1, ?_⟩, fun q => absurd ey q⟩, fun ey => ⟨w.1, _, c_isStop w hc hr.1 hr.2.1 hr.2.2.1 hr.2.2.2.1 hr.2.2.2.2.1, ?_⟩⟩, fun ef => ⟨by decide, _, rfl, by simp only [ohC, if_neg ef], rfl⟩⟩
    · exact hB _ (by simp only [ohC, if_pos ef, if_pos ey])
    · rintro _ _ ⟨rfl, rfl⟩
      refine ⟨fun q => absurd q ey, fun _ => ⟨w.1, _, c_hasCall w hfl, ?_⟩⟩
      rintro _ _ ⟨rfl, rfl⟩
      refine ⟨fun eh => ⟨by decide, _, rfl, by simp only [ohC, if_pos ef, if_neg ey, if_neg eh], rfl⟩, fun eh => ⟨fun es => ⟨by decide, _, rfl, ?_, rfl⟩, fun es => ⟨w.1, ?_⟩⟩⟩
      · have es2 : ¬ isStopC f nr nf c y = 0 := fun q => by rw [if_pos q] at es; exact absurd es (by decide)
        simp only [ohC, if_pos ef, if_neg ey, if_pos eh, if_neg es2]
      · have es2 : isStopC f nr nf c y = 0 := by
          by_cases q : isStopC f nr nf c y = 0
          · exact q
          · rw [if_neg q] at es; exact absurd rfl es
        exact hB _ (by simp only [ohC, if_pos ef, if_neg ey, if_pos eh, if_pos es2])
  · rw [now6 hr.1]
    exact nI_le (Nat.le_refl _) (by have := hr.2.1; omega)
theorem l_opensHere {nr nf m c fl : Nat} {y : Int32} {rc rs n0 : Nat} {X : String → PH → Prop} (w : MW mo h) (hc : c < 4) (hr : RV mo h f t nr nf m) (hfl : fl < 12) : ∀ (k i : Nat), i + k = nr → (∀ r, r < i → ¬ (abit (f (16 + 8 * c + 3)) r = 1 ∧ f (48 + 9 * r + 3) = nI fl)) → Gm l x mX8_opensHere 4 17 [(0, .ref mo), (1, .int (nI c)), (2, .int (nI fl)), (3, .int y), (4, .int (nI i))] [] (NW mo h f) rc rs n0 (fun v h' => ∃ r, v = some (.int r) ∧ r = (if ohA f c (nI fl) nr then 1 else ohC f nr nf c fl y) ∧ h' = NW mo h f) X := by
  have w2 := w.row 2 2 312 (by decide)
  have i6 : vp_in 6 (hK h (mo + 2)).2 := by rw [w2.2.2]; exact vp_in_nI (n := 6) (by decide) (by decide)
  have hnr := hr.2.1
  intro k
  induction k with
  | zero =>
    intro i hi hno
    obtain rfl : i = nr := by omega
    have h1 := l_opensHere0 (l := l) (x := x) (y := y) (rc := rc) (rs := rs) (n0 := n0) (X := X) w hc hr hfl
    have e : ohA f c (nI fl) i = false := by
      unfold ohA
      rw [List.any_eq_false]
      intro r hr9
      simpa using hno r (List.mem_range.mp hr9)
    rw [e]
    exact h1
  | succ k ih =>
    intro i hi hno
    have hlt : i < 24 := by omega
    have next : ¬ (abit (f (16 + 8 * c + 3)) i = 1 ∧ f (48 + 9 * i + 3) = nI fl) → Gm l x mX8_opensHere 4 17 [(0, .ref mo), (1, .int (nI c)), (2, .int (nI fl)), (3, .int y), (4, .int (nI i + 1))] [] (NW mo h f) rc rs n0 (fun v h' => ∃ r, v = some (.int r) ∧ r = (if ohA f c (nI fl) nr then 1 else ohC f nr nf c fl y) ∧ h' = NW mo h f) X := by
      intro hn
      have h1 := ih (i + 1) (by omega) (fun r hr9 => by
        rcases Nat.lt_or_ge r i with q | q
        · exact hno r q
        · obtain rfl : r = i := by omega
          exact hn)
      rw [← nI_1] at h1
      exact h1
    refine vX8_opensHere_17 ⟨w.1, mo + 2, w2.1, w2.2.1, i6, fun e => absurd e ?_, fun _ => ⟨_, c_carOf (k := 3) w hc (by decide), ?_⟩⟩
    · rw [now6 hr.1]
      exact nI_ge (by omega) (by omega)
    · rintro _ _ ⟨rfl, rfl⟩
      refine ⟨fun e => next (fun q => e q.1), fun e => ⟨w.1, _, c_of (k := 3) w hlt (by decide), ?_⟩⟩
      rintro _ _ ⟨rfl, rfl⟩
      refine ⟨fun e2 => next (fun q => e2 q.2), fun e2 => ⟨by decide, _, rfl, ?_, rfl⟩⟩
      have e3 : ohA f c (nI fl) nr = true := by
        unfold ohA
        rw [List.any_eq_true]
        exact ⟨i, List.mem_range.mpr (by omega), by simpa using ⟨e, e2⟩⟩
      rw [e3]
      rfl
theorem c_opensHere {nr nf m c fl : Nat} (w : MW mo h) (hc : c < 4) (hr : RV mo h f t nr nf m) (h0 : f (16 + 8 * c) = nI fl) (hfl : fl < 12) : CI l x mX8_opensHere 4 0 0 [.ref mo, .int (nI c)] (NW mo h f) (fun v h' => v = opensHereC f nr nf c fl ∧ h' = NW mo h f) := by
  refine Cm.of (by decide) (Nat.le_of_ble_eq_true rfl) (vX8_opensHere_0 ⟨w.1, _, c_carOf (k := 0) w hc (by decide), ?_⟩)
  rintro _ _ ⟨rfl, rfl⟩
  refine ⟨w.1, _, c_carOf (k := 1) w hc (by decide), ?_⟩
  rintro _ _ ⟨rfl, rfl⟩
  have h1 := l_opensHere (l := l) (x := x) (y := f (16 + 8 * c + 1)) (rc := 0) (rs := 0) (n0 := hN (NW mo h f)) (X := fun _ _ => False) w hc hr hfl nr 0 (by omega) (fun r hr9 => absurd hr9 (by omega))
  simp only [opensHereC]
  rw [← h0] at h1
  exact h1
end Ref6
