/-! THE REFERENCE, SECOND PART: calls, stops -/
def kix (f : Nat) (y : Int32) (s : Nat) : Nat := 264 + 4 * f + (if y ≤ 0 then 2 else 0) + (s - 1)
theorem kix_nI {f s : Nat} {y : Int32} (hs : 1 ≤ s) : (264 : Int32) + 4 * nI f + (if y ≤ 0 then 2 else 0 : Int32) + nI s - 1 = nI (kix f y s) := by
  have e : (if y ≤ 0 then 2 else 0 : Int32) = nI (if y ≤ 0 then 2 else 0) := by by_cases hy : y ≤ 0 <;> simp only [hy, if_true, if_false] <;> rfl
  rw [e]
  show nI 264 + nI 4 * nI f + _ + nI s - 1 = _
  rw [nI_mul, nI_add, nI_add, nI_add]
  obtain ⟨s', rfl⟩ : ∃ s', s = s' + 1 := ⟨s - 1, by omega⟩
  rw [← Nat.add_assoc, nI_pred]
  rfl
theorem kix_lt {f s : Nat} {y : Int32} (hf : f < 12) (h1 : 1 ≤ s) (h2 : s ≤ 2) : kix f y s < 312 := by
  unfold kix
  by_cases hy : y ≤ 0 <;> simp only [hy, if_true, if_false] <;> omega
def wayR (f : Nat → Int32) (r : Nat) : Int32 := if f (48 + 9 * r + 3) ≤ f (48 + 9 * r + 5) then -1 else 1
def hasC (f : Nat → Int32) (c fl : Nat) (y : Int32) : Int32 := if f (kix fl y 1) = nI c + 1 ∨ f (kix fl y 2) = nI c + 1 then 1 else 0
def takesC (ct : Nat → Int32) (c : Nat) (s : Int32) : Int32 := if ct (3 * c + 2) = 0 ∨ ct (3 * c + 2) = s then 1 else 0
/-- whether one of the first r riders calls at a floor by a way, of a sort -/
def icA (f : Nat → Int32) (fl wy so : Int32) : Nat → Int32
  | 0 => 0
  | r + 1 => if icA f fl wy so r = 0 then (if f (48 + 9 * r + 4) = 1 ∧ f (48 + 9 * r + 5) = fl ∧ wayR f r = wy ∧ f (48 + 9 * r) = so then 1 else 0) else 1
theorem icA_01 (f : Nat → Int32) (fl wy so : Int32) (r : Nat) : icA f fl wy so r = 0 ∨ icA f fl wy so r = 1 := by
  cases r with
  | zero => exact Or.inl rfl
  | succ r =>
    unfold icA
    split
    · split
      · exact Or.inr rfl
      · exact Or.inl rfl
    · exact Or.inr rfl
section Ref2
variable {l : Launch} {x : CX} {mo : Nat} {h : PH} {f : Nat → Int32}
theorem c_callAt {fl s : Nat} {y : Int32} {g : PH} (hs : 1 ≤ s) : CI l x mX8_callAt 0 0 0 [.int (nI fl), .int y, .int (nI s)] g (fun r h' => r = nI (kix fl y s) ∧ h' = g) :=
  Cm.of (by decide) (Nat.le_of_ble_eq_true rfl) (vX8_callAt_0 ⟨_, rfl, kix_nI hs, rfl⟩)
theorem c_wayOf {r : Nat} (w : MW mo h) (hr : r < 24) : CI l x mX8_wayOf 1 0 0 [.ref mo, .int (nI r)] (NW mo h f) (fun v h' => v = wayR f r ∧ h' = NW mo h f) := by
  refine Cm.of (by decide) (Nat.le_of_ble_eq_true rfl) (vX8_wayOf_0 ⟨w.1, _, c_of (k := 3) w hr (by decide), ?_⟩)
  rintro _ _ ⟨rfl, rfl⟩
  refine ⟨w.1, _, c_of (k := 5) w hr (by decide), ?_⟩
  rintro _ _ ⟨rfl, rfl⟩
  exact ⟨_, rfl, rfl, rfl⟩
theorem c_takes {c : Nat} {s : Int32} {g : PH} (w : MW mo g) (hc : c < 4) : CI l x mX8_takes 0 0 0 [.ref mo, .int (nI c), .int s] g (fun v h' => v = takesC (hI g (mo + 6)) c s ∧ h' = g) := by
  have w2 := w.row 6 6 12 (by decide)
  have e1 : (3 : Int32) * nI c + 2 = nI (3 * c + 2) := by
    show nI 3 * nI c + nI 2 = _
    rw [nI_mul, nI_add]
  have hin : vp_in ((3 : Int32) * nI c + 2) (hK g (mo + 6)).2 := by
    rw [w2.2.2]
    exact in_nI e1 (by omega) (by decide)
  have e2 : ((3 : Int32) * nI c + 2).toNatClampNeg = 3 * c + 2 := by rw [e1, nI_clamp (by omega)]
  refine Cm.of (by decide) (Nat.le_of_ble_eq_true rfl) (vX8_takes_0 ⟨w.1, mo + 6, w2.1, w2.2.1, hin, fun e => ⟨by decide, _, rfl, ?_, rfl⟩, fun e => ⟨hin, ?_, _, rfl, ?_, rfl⟩⟩)
  · rw [e2] at e
    rw [takesC, if_pos (Or.inl e)]
  · split <;> decide
  · rw [e2] at e ⊢
    unfold takesC
    by_cases h9 : hI g (mo + 6) (3 * c + 2) = s
    · rw [if_pos h9, if_pos (Or.inr h9)]
    · rw [if_neg h9, if_neg (fun q => q.elim e h9)]
theorem c_hasCall {c fl : Nat} {y : Int32} (w : MW mo h) (hf : fl < 12) : CI l x mX8_hasCall 1 0 0 [.ref mo, .int (nI c), .int (nI fl), .int y] (NW mo h f) (fun v h' => v = hasC f c fl y ∧ h' = NW mo h f) := by
  have w2 := w.row 2 2 312 (by decide)
  have k1 : kix fl y 1 < 312 := kix_lt hf (by decide) (by decide)
  have k2 : kix fl y 2 < 312 := kix_lt hf (by decide) (by decide)
  have i1 : vp_in (nI (kix fl y 1)) (hK h (mo + 2)).2 := by rw [w2.2.2]; exact vp_in_nI k1 (by decide)
  have i2 : vp_in (nI (kix fl y 2)) (hK h (mo + 2)).2 := by rw [w2.2.2]; exact vp_in_nI k2 (by decide)
  refine Cm.of (by decide) (Nat.le_of_ble_eq_true rfl) (vX8_hasCall_0 ⟨w.1, mo + 2, w2.1, _, c_callAt (s := 1) (by decide), ?_⟩)
  rintro _ _ ⟨rfl, rfl⟩
  refine ⟨w2.2.1, i1, fun e => ⟨by decide, _, rfl, ?_, rfl⟩, fun e => ⟨w.1, mo + 2, w2.1, _, c_callAt (s := 2) (by decide), ?_⟩⟩
  · rw [nI_clamp (by omega), hI_rws] at e
    rw [hasC, if_pos (Or.inl e)]
  · rw [nI_clamp (by omega), hI_rws] at e
    rintro _ _ ⟨rfl, rfl⟩
    refine ⟨w2.2.1, i2, ?_, _, rfl, ?_, rfl⟩
    · split <;> decide
    · rw [nI_clamp (by omega), hI_rws]
      unfold hasC
      by_cases h9 : f (kix fl y 2) = nI c + 1
      · rw [if_pos h9, if_pos (Or.inr h9)]
      · rw [if_neg h9, if_neg (fun q => q.elim e h9)]
theorem now6 {nr : Nat} (hf : f 6 = nI nr) : hI (NW mo h f) (mo + 2) (Int32.toNatClampNeg 6) = nI nr := by
  rw [hI_rws]
  exact hf
theorem l_isCall {nr : Nat} {fl wy so : Int32} {rc rs n0 : Nat} {X : String → PH → Prop} (w : MW mo h) (hf : f 6 = nI nr) (hnr : nr ≤ 24) : ∀ (m i : Nat), i + m = nr → Gm l x mX8_isCall 2 6 [(0, .ref mo), (1, .int fl), (2, .int wy), (3, .int so), (4, .int (icA f fl wy so i)), (5, .int (nI i))] [] (NW mo h f) rc rs n0 (fun v h' => ∃ r, v = some (.int r) ∧ r = icA f fl wy so nr ∧ h' = NW mo h f) X := by
  have w2 := w.row 2 2 312 (by decide)
  have i6 : vp_in 6 (hK h (mo + 2)).2 := by rw [w2.2.2]; exact vp_in_nI (n := 6) (by decide) (by decide)
  intro m
  induction m with
  | zero =>
    intro i hi
    obtain rfl : i = nr := by omega
    refine vX8_isCall_6 ⟨w.1, mo + 2, w2.1, w2.2.1, i6, fun _ => ⟨icA_01 f fl wy so i, _, rfl, rfl, rfl⟩, fun e => absurd ?_ e⟩
    rw [now6 hf]
    exact nI_le (Nat.le_refl _) (by omega)
  | succ m ih =>
    intro i hi
    have hlt : i < 24 := by omega
    refine vX8_isCall_6 ⟨w.1, mo + 2, w2.1, w2.2.1, i6, fun e => absurd e ?_, fun _ => ⟨fun e => ?_, fun e => ?_⟩⟩
    · rw [now6 hf]
      exact nI_ge (by omega) (by omega)
    · have h1 := ih (i + 1) (by omega)
      rw [show icA f fl wy so (i + 1) = 1 from by simp only [icA, if_neg e], ← nI_1] at h1
      exact h1
    · have step : ∀ v : Int32, (if f (48 + 9 * i + 4) = 1 ∧ f (48 + 9 * i + 5) = fl ∧ wayR f i = wy ∧ f (48 + 9 * i) = so then 1 else 0 : Int32) = v → Gm l x mX8_isCall 2 6 [(0, .ref mo), (1, .int fl), (2, .int wy), (3, .int so), (4, .int v), (5, .int (nI i + 1))] [] (NW mo h f) rc rs n0 (fun v h' => ∃ r, v = some (.int r) ∧ r = icA f fl wy so nr ∧ h' = NW mo h f) X := by
        intro v hv
        have h1 := ih (i + 1) (by omega)
        rw [show icA f fl wy so (i + 1) = v from by simp only [icA, if_pos e]; exact hv, ← nI_1] at h1
        exact h1
      refine ⟨_, c_of (k := 4) w hlt (by decide), ?_⟩
      rintro _ _ ⟨rfl, rfl⟩
      refine ⟨fun e4 => step 0 (if_neg (fun q => e4 q.1)), fun e4 => ⟨w.1, _, c_of (k := 5) w hlt (by decide), ?_⟩⟩
      rintro _ _ ⟨rfl, rfl⟩
      refine ⟨fun e5 => step 0 (if_neg (fun q => e5 q.2.1)), fun e5 => ⟨w.1, _, c_wayOf w hlt, ?_⟩⟩
      rintro _ _ ⟨rfl, rfl⟩
      refine ⟨fun e6 => step 0 (if_neg (fun q => e6 q.2.2.1)), fun e6 => ⟨w.1, _, c_of (k := 0) w hlt (by decide), ?_⟩⟩
      rintro _ _ ⟨rfl, rfl⟩
      refine step _ ?_
      by_cases h9 : f (48 + 9 * i + 0) = so
      · rw [if_pos h9, if_pos ⟨e4, e5, e6, h9⟩]
      · rw [if_neg h9, if_neg (fun q => h9 q.2.2.2)]
theorem c_isCall {nr : Nat} {fl wy so : Int32} (w : MW mo h) (hf : f 6 = nI nr) (hnr : nr ≤ 24) : CI l x mX8_isCall 2 0 0 [.ref mo, .int fl, .int wy, .int so] (NW mo h f) (fun v h' => v = icA f fl wy so nr ∧ h' = NW mo h f) :=
  Cm.of (by decide) (Nat.le_of_ble_eq_true rfl) (vX8_isCall_0 (l_isCall w hf hnr nr 0 (by omega)))
end Ref2
