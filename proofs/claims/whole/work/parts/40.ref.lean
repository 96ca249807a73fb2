/-! THE REFERENCE, FIRST PART: its cells, and its small methods. mo: the address of the LiftBankModel -/
def rw1 (h : PH) (a : Nat) (f : Nat → Int32) : PH := (h.1, h.2.1, (fun b j => if b = a then f j else h.2.2.1 b j), h.2.2.2.1, h.2.2.2.2.1, h.2.2.2.2.2)
def up (f : Nat → Int32) (k : Nat) (v : Int32) : Nat → Int32 := fun j => if j = k then v else f j
theorem hI_rw (h : PH) (a b j : Nat) (f : Nat → Int32) : hI (rw1 h a f) b j = if b = a then f j else hI h b j := rfl
theorem hI_rws (h : PH) (a j : Nat) (f : Nat → Int32) : hI (rw1 h a f) a j = f j := if_pos rfl
theorem hK_rw (h : PH) (a b : Nat) (f : Nat → Int32) : hK (rw1 h a f) b = hK h b := rfl
theorem hR_rw (h : PH) (a b j : Nat) (f : Nat → Int32) : hR (rw1 h a f) b j = hR h b j := rfl
theorem hN_rw (h : PH) (a : Nat) (f : Nat → Int32) : hN (rw1 h a f) = hN h := rfl
theorem rw_rw (h : PH) (a : Nat) (f g : Nat → Int32) : rw1 (rw1 h a f) a g = rw1 h a g := by
  simp only [rw1]
  congr 3
  funext b j
  by_cases hb : b = a <;> simp [hb]
theorem sI_rws (h : PH) (a k : Nat) (v : Int32) (f : Nat → Int32) : sI (rw1 h a f) a k v = rw1 h a (up f k v) := by
  simp only [rw1, sI, u2, up]
  congr 3
  funext b j
  by_cases hb : b = a <;> by_cases hj : j = k <;> simp [u2, hb, hj]
theorem rw_self (h : PH) (a : Nat) : rw1 h a (fun j => hI h a j) = h := by
  show (h.1, h.2.1, (fun b j => if b = a then h.2.2.1 a j else h.2.2.1 b j), h.2.2.2.1, h.2.2.2.2.1, h.2.2.2.2.2) = h
  have e : (fun b j => if b = a then h.2.2.1 a j else h.2.2.1 b j) = h.2.2.1 := by
    funext b j
    by_cases hb : b = a
    · rw [if_pos hb, hb]
    · rw [if_neg hb]
  rw [e]
/-- rows of ints of the reference: field, distance, length -/
def mtab : List (Nat × Nat × Nat) := [(2, 2, 312), (3, 3, 3), (4, 4, 7), (5, 5, 7), (6, 6, 12), (7, 7, 12), (8, 8, 80), (9, 9, 80), (10, 10, 900), (22, 11, 312), (23, 12, 312), (25, 13, 12480), (27, 14, 8), (28, 15, 8), (31, 16, 720), (33, 17, 312), (37, 18, 312), (38, 19, 12480), (39, 20, 8), (40, 21, 8), (41, 22, 3)]
def MW (mo : Nat) (h : PH) : Prop := (hK h mo).1 = 8 ∧ (∀ q ∈ mtab, hR h mo q.1 = some (mo + q.2.1) ∧ hK h (mo + q.2.1) = (100, q.2.2)) ∧ hR h mo 0 = some (mo + 1) ∧ hK h (mo + 1) = (108, 7) ∧ ∀ j, j < 7 → hR h (mo + 1) j = some (10 + j)
theorem MW.row {mo : Nat} {h : PH} (w : MW mo h) (k o n : Nat) (hq : (k, o, n) ∈ mtab) : hR h mo k = some (mo + o) ∧ (hK h (mo + o)).1 = 100 ∧ (hK h (mo + o)).2 = n :=
  ⟨(w.2.1 _ hq).1, congrArg Prod.fst (w.2.1 _ hq).2, congrArg Prod.snd (w.2.1 _ hq).2⟩
theorem MW.rw {mo : Nat} {h : PH} (w : MW mo h) (a : Nat) (f : Nat → Int32) : MW mo (rw1 h a f) := w
theorem MW.sI {mo : Nat} {h : PH} (w : MW mo h) (a k : Nat) (v : Int32) : MW mo (sI h a k v) := w
theorem nI_mul (a b : Nat) : nI a * nI b = nI (a * b) := (Int32.ofNat_mul a b).symm
theorem in_nI {n N : Nat} {i : Int32} (e : i = nI n) (h : n < N) (hN : N < 2 ^ 31) : vp_in i N := by rw [e]; exact vp_in_nI h hN
theorem ixc {c k : Nat} : (16 : Int32) + 8 * nI c + nI k = nI (16 + 8 * c + k) := by
  show nI 16 + nI 8 * nI c + nI k = _
  rw [nI_mul, nI_add, nI_add]
theorem ixr {c k : Nat} : (48 : Int32) + 9 * nI c + nI k = nI (48 + 9 * c + k) := by
  show nI 48 + nI 9 * nI c + nI k = _
  rw [nI_mul, nI_add, nI_add]
section Ref1
variable {l : Launch} {x : CX} {mo : Nat} {h : PH} {f : Nat → Int32}
/-- the heap h with the row 'now' f -/
abbrev NW (mo : Nat) (h : PH) (f : Nat → Int32) : PH := rw1 h (mo + 2) f
theorem c_carOf {c k : Nat} (w : MW mo h) (hc : c < 4) (hk : k < 8) : CI l x mX8_carOf 0 0 0 [.ref mo, .int (nI c), .int (nI k)] (NW mo h f) (fun r h' => r = f (16 + 8 * c + k) ∧ h' = NW mo h f) := by
  have w2 := w.row 2 2 312 (by decide)
  have e : ((16 : Int32) + 8 * nI c + nI k).toNatClampNeg = 16 + 8 * c + k := by rw [ixc, nI_clamp (by omega)]
  refine Cm.of (by decide) (Nat.le_of_ble_eq_true rfl) (vX8_carOf_0 ⟨w.1, mo + 2, w2.1, w2.2.1, ?_, _, rfl, ?_, rfl⟩)
  · show vp_in _ (hK h (mo + 2)).2
    rw [w2.2.2]
    exact in_nI ixc (by omega) (by decide)
  · rw [e, hI_rws]
theorem c_of {c k : Nat} (w : MW mo h) (hc : c < 24) (hk : k < 9) : CI l x mX8_of 0 0 0 [.ref mo, .int (nI c), .int (nI k)] (NW mo h f) (fun r h' => r = f (48 + 9 * c + k) ∧ h' = NW mo h f) := by
  have w2 := w.row 2 2 312 (by decide)
  have e : ((48 : Int32) + 9 * nI c + nI k).toNatClampNeg = 48 + 9 * c + k := by rw [ixr, nI_clamp (by omega)]
  refine Cm.of (by decide) (Nat.le_of_ble_eq_true rfl) (vX8_of_0 ⟨w.1, mo + 2, w2.1, w2.2.1, ?_, _, rfl, ?_, rfl⟩)
  · show vp_in _ (hK h (mo + 2)).2
    rw [w2.2.2]
    exact in_nI ixr (by omega) (by decide)
  · rw [e, hI_rws]
theorem c_putCar {c k : Nat} {v : Int32} (w : MW mo h) (hc : c < 4) (hk : k < 8) : CV l x mX8_putCar 0 0 0 [.ref mo, .int (nI c), .int (nI k), .int v] (NW mo h f) (fun h' => h' = NW mo h (up f (16 + 8 * c + k) v)) := by
  have w2 := w.row 2 2 312 (by decide)
  have e : ((16 : Int32) + 8 * nI c + nI k).toNatClampNeg = 16 + 8 * c + k := by rw [ixc, nI_clamp (by omega)]
  refine Cm.of (by decide) (Nat.le_of_ble_eq_true rfl) (vX8_putCar_0 ⟨w.1, mo + 2, w2.1, w2.2.1, ?_, rfl, ?_⟩)
  · show vp_in _ (hK h (mo + 2)).2
    rw [w2.2.2]
    exact in_nI ixc (by omega) (by decide)
  · rw [e, sI_rws]
theorem c_put {c k : Nat} {v : Int32} (w : MW mo h) (hc : c < 24) (hk : k < 9) : CV l x mX8_put 0 0 0 [.ref mo, .int (nI c), .int (nI k), .int v] (NW mo h f) (fun h' => h' = NW mo h (up f (48 + 9 * c + k) v)) := by
  have w2 := w.row 2 2 312 (by decide)
  have e : ((48 : Int32) + 9 * nI c + nI k).toNatClampNeg = 48 + 9 * c + k := by rw [ixr, nI_clamp (by omega)]
  refine Cm.of (by decide) (Nat.le_of_ble_eq_true rfl) (vX8_put_0 ⟨w.1, mo + 2, w2.1, w2.2.1, ?_, rfl, ?_⟩)
  · show vp_in _ (hK h (mo + 2)).2
    rw [w2.2.2]
    exact in_nI ixr (by omega) (by decide)
  · rw [e, sI_rws]
end Ref1
