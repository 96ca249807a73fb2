/-! FLOATS that are not below 0, and numbers: their sums are such again -/
def Fok (b : UInt32) : Prop := b.toNat ≤ 2139095040
theorem fp_dec {n : Nat} (h : n ≤ 2139095040) : (∃ c q, Jvm.FP.Core.decode Jvm.FP.Core.b32 n = .fin false c q) ∨ Jvm.FP.Core.decode Jvm.FP.Core.b32 n = .inf false := by
  have eT : Jvm.FP.Core.fieldT Jvm.FP.Core.b32 n = n % 8388608 := rfl
  have eE : Jvm.FP.Core.fieldE Jvm.FP.Core.b32 n = n / 8388608 % 256 := rfl
  have eS : Jvm.FP.Core.fieldS Jvm.FP.Core.b32 n = false := by
    show (n / 8388608 / 256 % 2 == 1) = false
    have : n / 8388608 / 256 % 2 = 0 := by omega
    rw [this]
    rfl
  have eX : Jvm.FP.Core.Fmt.exps Jvm.FP.Core.b32 = 256 := rfl
  unfold Jvm.FP.Core.decode
  rw [eS, eE, eT, eX]
  by_cases h1 : n / 8388608 % 256 = 256 - 1
  · rw [if_pos h1]
    have h2 : n % 8388608 = 0 := by omega
    rw [if_pos h2]
    exact Or.inr rfl
  · rw [if_neg h1]
    by_cases h2 : n / 8388608 % 256 = 0
    · rw [if_pos h2]; exact Or.inl ⟨_, _, rfl⟩
    · rw [if_neg h2]; exact Or.inl ⟨_, _, rfl⟩
theorem fp_encI : Jvm.FP.Core.encode Jvm.FP.Core.b32 (.inf false) ≤ 2139095040 := by decide
theorem fp_encF {c : Nat} {q : Int} (hc : c < 16777216) (hq : q ≤ 104) : Jvm.FP.Core.encode Jvm.FP.Core.b32 (.fin false c q) ≤ 2139095040 := by
  show (if c < 8388608 then (0 * 256 + 0) * 8388608 + c else (0 * 256 + ((q - (-149)).toNat + 1)) * 8388608 + (c - 8388608)) ≤ 2139095040
  by_cases h : c < 8388608
  · rw [if_pos h]; omega
  · rw [if_neg h]; omega
theorem fp_bound {c : Nat} {q : Int} (hc : c < 16777216) : Jvm.FP.Core.encode Jvm.FP.Core.b32 (Jvm.FP.Core.bound Jvm.FP.Core.b32 false c q) ≤ 2139095040 := by
  unfold Jvm.FP.Core.bound
  by_cases h : q ≤ Jvm.FP.Core.Fmt.qmax Jvm.FP.Core.b32
  · rw [if_pos h]
    exact fp_encF hc (by rw [show (104 : Int) = Jvm.FP.Core.Fmt.qmax Jvm.FP.Core.b32 from rfl]; exact h)
  · rw [if_neg h]; exact fp_encI
theorem fp_settle {c : Nat} {q : Int} : Jvm.FP.Core.encode Jvm.FP.Core.b32 (Jvm.FP.Core.settle Jvm.FP.Core.b32 false c q) ≤ 2139095040 := by
  unfold Jvm.FP.Core.settle
  have e : (2 : Nat) ^ Jvm.FP.Core.b32.p = 16777216 := rfl
  rw [e]
  by_cases h : c < 16777216
  · rw [if_pos h]; exact fp_bound h
  · rw [if_neg h]; exact fp_bound (by decide)
theorem fp_ratio {num den : Nat} {e : Int} : Jvm.FP.Core.encode Jvm.FP.Core.b32 (Jvm.FP.Core.roundRatio Jvm.FP.Core.b32 false num den e) ≤ 2139095040 := by
  unfold Jvm.FP.Core.roundRatio
  by_cases h : num = 0
  · rw [if_pos h]; decide
  · rw [if_neg h]; exact fp_settle
theorem fp_of {n : Nat} (h : n ≤ 2139095040) : Fok (UInt32.ofNat n) := by
  show (UInt32.ofNat n).toNat ≤ 2139095040
  rw [UInt32.toNat_ofNat']
  exact Nat.le_trans (Nat.mod_le _ _) h
theorem fadd_ok {a b : UInt32} (ha : Fok a) (hb : Fok b) : Fok (FP.fadd a b) := by
  refine fp_of ?_
  show Jvm.FP.Core.encode Jvm.FP.Core.b32 (Jvm.FP.Core.round Jvm.FP.Core.b32 (Jvm.FP.Core.exactSum (Jvm.FP.Core.decode Jvm.FP.Core.b32 a.toNat) (Jvm.FP.Core.decode Jvm.FP.Core.b32 b.toNat))) ≤ 2139095040
  rcases fp_dec ha with ⟨c, q, e1⟩ | e1 <;> rcases fp_dec hb with ⟨d, r, e2⟩ | e2 <;> rw [e1, e2]
  · have hs : Jvm.FP.Core.sumSign false false (Jvm.FP.Core.sumUnits false c q false d r (min q r)) = false := by
      unfold Jvm.FP.Core.sumSign
      split
      · rfl
      · have : ¬ Jvm.FP.Core.sumUnits false c q false d r (min q r) < 0 := by
          simp only [Jvm.FP.Core.sumUnits, Jvm.FP.Core.signed]
          simp
          omega
        simp [this]
    simp only [Jvm.FP.Core.exactSum, hs, Jvm.FP.Core.round]
    exact fp_ratio
  · exact fp_encI
  · exact fp_encI
  · simp only [Jvm.FP.Core.exactSum, if_true, Jvm.FP.Core.round]
    exact fp_encI
theorem Fok.n {b : UInt32} (h : Fok b) : vf_n32 b := by
  show b &&& 0x7fffffff ≤ 0x7f800000
  rw [UInt32.le_iff_toNat_le, UInt32.toNat_and]
  exact Nat.le_trans Nat.and_le_left h
theorem Fok.s {b : UInt32} (h : Fok b) : vn_sni2f b.toInt32 = false := by
  have h1 : ¬ (b.toInt32.toUInt32 &&& 0x7fffffff > 0x7f800000) := by
    rw [show b.toInt32.toUInt32 = b from rfl]
    exact UInt32.not_lt.mpr h.n
  have h2 : decide (b.toInt32.toUInt32 &&& 0x7fffffff > 0x7f800000) = false := decide_eq_false h1
  simp only [vn_sni2f, h2, Bool.false_and]
