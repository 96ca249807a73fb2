/-! BITS OF A LONG, as the class tests, sets and clears them -/
def bL (x : Int64) (i : Nat) : Bool := x.toBitVec.getLsbD i
theorem bL_ext {x y : Int64} (h : ∀ i, i < 64 → bL x i = bL y i) : x = y := Int64.toBitVec_inj.mp (BitVec.eq_of_getLsbD_eq (fun i hi => h i hi))
theorem bL_or (x y : Int64) (i : Nat) : bL (x ||| y) i = (bL x i || bL y i) := by unfold bL; rw [Int64.toBitVec_or, BitVec.getLsbD_or]
theorem bL_and (x y : Int64) (i : Nat) : bL (x &&& y) i = (bL x i && bL y i) := by unfold bL; rw [Int64.toBitVec_and, BitVec.getLsbD_and]
theorem bL_xor (x y : Int64) (i : Nat) : bL (x ^^^ y) i = (bL x i ^^ bL y i) := by unfold bL; rw [Int64.toBitVec_xor, BitVec.getLsbD_xor]
theorem bL_big {x : Int64} {i : Nat} (h : 64 ≤ i) : bL x i = false := BitVec.getLsbD_of_ge _ _ h
theorem bL_m1 : ∀ i, i < 64 → bL (-1) i = true := by decide +kernel
theorem bL_0 (i : Nat) : bL 0 i = false := BitVec.getLsbD_zero
theorem bL_c1 : ∀ i, i < 64 → bL 1 i = decide (i = 0) := by decide +kernel
theorem bL_c2 : ∀ i, i < 64 → bL 2 i = decide (i = 1) := by decide +kernel
theorem bL_c3 : ∀ i, i < 64 → bL 3 i = decide (i < 2) := by decide +kernel
theorem bL_c12 : ∀ i, i < 64 → bL 12 i = decide (2 ≤ i ∧ i < 4) := by decide +kernel
theorem bL_c15 : ∀ i, i < 64 → bL 15 i = decide (i < 4) := by decide +kernel
theorem bL_zero {x : Int64} : x = 0 ↔ ∀ i, i < 64 → bL x i = false := ⟨fun e i _ => by rw [e, bL_0], fun h => bL_ext fun i hi => by rw [h i hi, bL_0]⟩
theorem bL_nz {x : Int64} : ¬ x = 0 ↔ ∃ i, i < 64 ∧ bL x i = true := by
  rw [bL_zero]
  constructor
  · intro h
    exact Classical.byContradiction fun q => h fun i hi => by
      cases e : bL x i with
      | false => rfl
      | true => exact absurd ⟨i, hi, e⟩ q
  · rintro ⟨i, hi, e⟩ h
    rw [h i hi] at e
    cases e
theorem lg0 {x : Int64} : lg_cmp x 0 = 0 ↔ x = 0 := by
  unfold lg_cmp
  constructor
  · intro h
    split at h
    · cases h
    · split at h
      · assumption
      · cases h
  · intro h
    rw [h]
    decide
theorem sL_l : ∀ n, n < 64 → (((nI n).toInt64 &&& 63).toBitVec.smod 64).toNat = n := by decide +kernel
theorem bL_shl (n : Nat) (hn : n < 64) (x : Int64) {i : Nat} (hi : i < 64) : bL (lsh x (nI n)) i = (decide (n ≤ i) && bL x (i - n)) := by
  unfold bL lsh
  rw [Int64.toBitVec_shiftLeft, BitVec.shiftLeft_eq', sL_l n hn, BitVec.getLsbD_shiftLeft]
  by_cases h : i < n
  · simp [h, Nat.not_le.mpr h]
  · simp [h, hi, Nat.le_of_not_lt h]
theorem bL_ushr (n : Nat) (hn : n < 64) (x : Int64) (i : Nat) : bL (lus x (nI n)) i = bL x (n + i) := by
  have e : (lus x (nI n)).toBitVec = x.toBitVec >>> n := by
    unfold lus
    rw [wb_cu n hn]
    apply BitVec.eq_of_toNat_eq
    show (x.toUInt64 >>> UInt64.ofNat n).toNat = _
    have h1 : (UInt64.ofNat n).toNat = n := Nat.mod_eq_of_lt (by omega)
    rw [UInt64.toNat_shiftRight, h1, Nat.mod_eq_of_lt hn, BitVec.toNat_ushiftRight]
    rfl
  unfold bL
  rw [e, BitVec.getLsbD_ushiftRight]
theorem bL_one (n : Nat) (hn : n < 64) {i : Nat} (hi : i < 64) : bL (lsh 1 (nI n)) i = decide (i = n) := by
  rw [bL_shl n hn 1 hi]
  by_cases h : n ≤ i
  · rw [bL_c1 _ (by omega)]
    simp only [h, decide_true, Bool.true_and, decide_eq_decide]
    omega
  · rw [decide_eq_false h, Bool.false_and, decide_eq_false (by omega)]
theorem bL_low : ∀ n, n < 64 → ∀ i, i < 64 → bL ((lsh 1 (nI n)) - 1) i = decide (i < n) := by decide +kernel
theorem bL_set (x : Int64) (n : Nat) (hn : n < 64) {i : Nat} (hi : i < 64) : bL (x ||| lsh 1 (nI n)) i = (if i = n then true else bL x i) := by
  rw [bL_or, bL_one n hn hi]
  by_cases h : i = n
  · rw [if_pos h]; simp [h]
  · rw [if_neg h]; simp [h]
theorem bL_clr (x y : Int64) {i : Nat} (hi : i < 64) : bL (x &&& (y ^^^ (-1))) i = (bL x i && !bL y i) := by
  rw [bL_and, bL_xor, bL_m1 i hi]
  cases bL y i <;> rfl
theorem n4 (k : Nat) : (4 : Int32) * nI k = nI (4 * k) := by
  show nI 4 * nI k = _
  rw [nI_mul]
theorem lus4 (x : Int64) (i : Nat) : bL (lus x 4) i = bL x (4 + i) := bL_ushr 4 (by omega) x i
/-- some bit above, below, at a place, a few together -/
theorem bL_above (x : Int64) (f : Nat) (hf : f < 12) : ¬ lg_cmp (lus (lus x (nI (4 * f))) 4) 0 = 0 ↔ ∃ i, 4 * f + 4 ≤ i ∧ i < 64 ∧ bL x i = true := by
  rw [lg0, bL_nz]
  constructor
  · rintro ⟨i, hi, e⟩
    rw [lus4, bL_ushr _ (by omega)] at e
    refine ⟨_, ?_, ?_, e⟩
    · omega
    · rcases Nat.lt_or_ge (4 * f + (4 + i)) 64 with q | q
      · exact q
      · rw [bL_big q] at e; cases e
  · rintro ⟨i, h1, h2, e⟩
    refine ⟨i - (4 * f + 4), by omega, ?_⟩
    rw [lus4, bL_ushr _ (by omega), show 4 * f + (4 + (i - (4 * f + 4))) = i by omega]
    exact e
theorem bL_below (x : Int64) (f : Nat) (hf : f < 12) : ¬ lg_cmp (x &&& ((lsh 1 (nI (4 * f))) - 1)) 0 = 0 ↔ ∃ i, i < 4 * f ∧ bL x i = true := by
  rw [lg0, bL_nz]
  constructor
  · rintro ⟨i, hi, e⟩
    rw [bL_and, bL_low _ (by omega) i hi] at e
    simp only [Bool.and_eq_true, decide_eq_true_eq] at e
    exact ⟨i, e.2, e.1⟩
  · rintro ⟨i, h1, e⟩
    refine ⟨i, by omega, ?_⟩
    rw [bL_and, bL_low _ (by omega) i (by omega), e, decide_eq_true h1]
    rfl
theorem bL_at (x y : Int64) (f : Nat) (hf : f < 12) : ¬ lg_cmp ((lus x (nI (4 * f))) &&& y) 0 = 0 ↔ ∃ i, i < 64 ∧ bL x (4 * f + i) = true ∧ bL y i = true := by
  rw [lg0, bL_nz]
  constructor
  · rintro ⟨i, hi, e⟩
    rw [bL_and, bL_ushr _ (by omega)] at e
    simp only [Bool.and_eq_true] at e
    exact ⟨i, hi, e⟩
  · rintro ⟨i, hi, e⟩
    refine ⟨i, hi, ?_⟩
    rw [bL_and, bL_ushr _ (by omega), e.1, e.2]
    rfl
