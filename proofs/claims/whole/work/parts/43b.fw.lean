/-! FLOATS, closer: sums of work stay numbers between 0 and 2^30; the bits of a float, found by halving -/
def Wok (b : UInt32) : Prop := b.toNat = 0 ∨ (8388608 ≤ b.toNat ∧ b.toNat ≤ 1317011456)
def Dok (b : UInt32) : Prop := 8388608 ≤ b.toNat ∧ b.toNat ≤ 1082130432
theorem Wok.f {b : UInt32} (h : Wok b) : Fok b := by
  show b.toNat ≤ 2139095040
  rcases h with h | h <;> omega
theorem Dok.f {b : UInt32} (h : Dok b) : Fok b := by
  show b.toNat ≤ 2139095040
  have := h.2
  omega
theorem fp_mag {n : Nat} (h : n ≤ 2139095040) : Jvm.FP.Core.mag Jvm.FP.Core.b32 n = n := Jvm.FP.Core.mag_of_lt (by rw [Jvm.FP.Core.half_b32]; omega)
theorem fp_fin {n : Nat} (h : n < 2139095040) : ∃ c q, Jvm.FP.Core.decode Jvm.FP.Core.b32 n = .fin false c q ∧ Jvm.FP.Core.fits Jvm.FP.Core.b32 (.fin false c q) ∧ Jvm.FP.Core.zmag Jvm.FP.Core.b32 (.fin false c q) = Jvm.FP.Core.unitsOf Jvm.FP.Core.b32 n := by
  obtain ⟨s, c, q, h1, h2, h3⟩ := Jvm.FP.Core.fin_of_mag (f := Jvm.FP.Core.b32) Jvm.FP.Core.good_b32 (n := n) (by rw [fp_mag (by omega), Jvm.FP.Core.infBits_b32]; exact h)
  rw [fp_mag (by omega)] at h3
  rcases fp_dec (n := n) (by omega) with ⟨c', q', e⟩ | e
  · rw [h1] at e
    cases e
    exact ⟨c, q, h1, h2, h3⟩
  · rw [h1] at e
    cases e
theorem un_157 : Jvm.FP.Core.unitsOf Jvm.FP.Core.b32 1317011456 = 2 ^ 179 := by decide +kernel
theorem un_157' : Jvm.FP.Core.unitsOf Jvm.FP.Core.b32 1317011457 = 2 ^ 179 + 2 ^ 156 := by decide +kernel
theorem un_129 : Jvm.FP.Core.unitsOf Jvm.FP.Core.b32 1082130432 = 2 ^ 151 := by decide +kernel
theorem fadd_w {a b : UInt32} (ha : Wok a) (hb : Dok b) : Wok (FP.fadd a b) := by
  have fk := fadd_ok ha.f hb.f
  obtain ⟨c, q, a1, a2, a3⟩ := fp_fin (n := a.toNat) (by rcases ha with h | h <;> omega)
  obtain ⟨d, r, b1, b2, b3⟩ := fp_fin (n := b.toNat) (by have := hb.2; omega)
  obtain ⟨sg, n, e, s1, s2, s3⟩ := Jvm.FP.Core.sum_units a2 b2
  have z1 : Jvm.FP.Core.zval Jvm.FP.Core.b32 (.fin false c q) = (Jvm.FP.Core.unitsOf Jvm.FP.Core.b32 a.toNat : Int) := by rw [← a3]; rfl
  have z2 : Jvm.FP.Core.zval Jvm.FP.Core.b32 (.fin false d r) = (Jvm.FP.Core.unitsOf Jvm.FP.Core.b32 b.toNat : Int) := by rw [← b3]; rfl
  rw [z1, z2] at s3
  have ub0 : 0 < Jvm.FP.Core.unitsOf Jvm.FP.Core.b32 b.toNat := by
    have h1 := Jvm.FP.Core.unitsOf_lt (f := Jvm.FP.Core.b32) (m := 0) (k := b.toNat) (by have := hb.1; omega)
    rwa [Jvm.FP.Core.unitsOf_zero] at h1
  have ub : Jvm.FP.Core.unitsOf Jvm.FP.Core.b32 b.toNat ≤ 2 ^ 151 := by rw [← un_129]; exact Jvm.FP.Core.unitsOf_le_iff.mpr hb.2
  have ua : Jvm.FP.Core.unitsOf Jvm.FP.Core.b32 a.toNat ≤ 2 ^ 179 := by rw [← un_157]; exact Jvm.FP.Core.unitsOf_le_iff.mpr (by rcases ha with h | h <;> omega)
  have hs : sg = false ∧ Jvm.FP.Core.inUnits n e Jvm.FP.Core.b32.qmin = Jvm.FP.Core.unitsOf Jvm.FP.Core.b32 a.toNat + Jvm.FP.Core.unitsOf Jvm.FP.Core.b32 b.toNat := by
    cases sg with
    | false => exact ⟨rfl, by simp only [Jvm.FP.Core.signed, if_false, Bool.false_eq_true] at s3; omega⟩
    | true => simp only [Jvm.FP.Core.signed, if_true] at s3; omega
  obtain ⟨rfl, hn⟩ := hs
  have hd : Jvm.FP.Core.decode Jvm.FP.Core.b32 (FP.fadd a b).toNat = Jvm.FP.Core.roundRatio Jvm.FP.Core.b32 false n 1 e := by
    have h1 := Jvm.FP.Core.val32_fadd a b
    unfold Jvm.FP.Core.val32 at h1
    rw [a1, b1, s1] at h1
    exact h1
  have mg : Jvm.FP.Core.mag Jvm.FP.Core.b32 (FP.fadd a b).toNat = (FP.fadd a b).toNat := fp_mag fk
  have lo := Jvm.FP.Core.mag_ge Jvm.FP.Core.good_b32 (m := b.toNat) (e0 := Jvm.FP.Core.b32.qmin) hd (by decide) (by omega) s2 (by rw [Jvm.FP.Core.infBits_b32]; have := hb.2; omega) (by rw [hn, show (Jvm.FP.Core.b32.qmin - Jvm.FP.Core.b32.qmin).toNat = 0 by omega]; omega)
  have hi := Jvm.FP.Core.mag_le Jvm.FP.Core.good_b32 (m := 1317011457) (e0 := Jvm.FP.Core.b32.qmin) hd (by decide) (by omega) s2 (by rw [hn, un_157', show (Jvm.FP.Core.b32.qmin - Jvm.FP.Core.b32.qmin).toNat = 0 by omega]; omega)
  rw [mg] at lo hi
  refine Or.inr ⟨Nat.le_trans hb.1 lo, ?_⟩
  refine Nat.le_of_not_lt fun hlt => ?_
  have e9 : (FP.fadd a b).toNat = 1317011457 := by omega
  rw [e9] at hd
  have d9 : Jvm.FP.Core.decode Jvm.FP.Core.b32 1317011457 = .fin false 8388609 7 := by decide +kernel
  rw [d9] at hd
  have h1 := Jvm.FP.Core.roundRatio_nearest Jvm.FP.Core.good_b32 (e0 := Jvm.FP.Core.b32.qmin) (c' := 8388608) (q' := 7) (by decide) hd.symm (by decide) (by decide) (by omega) s2
  unfold Jvm.FP.Core.distance at h1
  rw [hn, show Jvm.FP.Core.inUnits 8388609 7 Jvm.FP.Core.b32.qmin = 2 ^ 179 + 2 ^ 156 by decide +kernel, show Jvm.FP.Core.inUnits 8388608 7 Jvm.FP.Core.b32.qmin = 2 ^ 179 by decide +kernel] at h1
  omega
/-! the float of exponent E and tail T -/
def fb (E T : Nat) : UInt32 := UInt32.ofNat (E * 8388608 + T)
theorem fb_n {E T : Nat} (hE : E ≤ 254) (hT : T < 8388608) : (fb E T).toNat = E * 8388608 + T := by
  unfold fb
  rw [UInt32.toNat_ofNat']
  omega
theorem fb_ok {E T : Nat} (hE : E ≤ 254) (hT : T < 8388608) : Fok (fb E T) := by
  show (fb E T).toNat ≤ _
  rw [fb_n hE hT]; omega
theorem fb_dec {E T : Nat} (h1 : 1 ≤ E) (hE : E ≤ 254) (hT : T < 8388608) : Jvm.FP.Core.decode Jvm.FP.Core.b32 (E * 8388608 + T) = .fin false (8388608 + T) ((E : Int) - 150) := by
  have eT : Jvm.FP.Core.fieldT Jvm.FP.Core.b32 (E * 8388608 + T) = T := by show (E * 8388608 + T) % 8388608 = T; omega
  have eE : Jvm.FP.Core.fieldE Jvm.FP.Core.b32 (E * 8388608 + T) = E := by show (E * 8388608 + T) / 8388608 % 256 = E; omega
  have eS : Jvm.FP.Core.fieldS Jvm.FP.Core.b32 (E * 8388608 + T) = false := by
    show ((E * 8388608 + T) / 8388608 / 256 % 2 == 1) = false
    have : (E * 8388608 + T) / 8388608 / 256 % 2 = 0 := by omega
    rw [this]
    rfl
  unfold Jvm.FP.Core.decode
  rw [eS, eE, eT, show Jvm.FP.Core.b32.exps - 1 = 255 from rfl, if_neg (by omega), if_neg (by omega)]
  show Jvm.FP.Core.Datum.fin false (8388608 + T) (-149 + ((E : Int) - 1)) = _
  congr 1
  omega
theorem fb_v {E T : Nat} (h1 : 1 ≤ E) (hE : E ≤ 254) (hT : T < 8388608) : Jvm.FP.Core.val32 (fb E T) = .fin false (8388608 + T) ((E : Int) - 150) := by
  unfold Jvm.FP.Core.val32
  rw [fb_n hE hT, fb_dec h1 hE hT]
theorem fb_fit {E T : Nat} (h1 : 1 ≤ E) (hE : E ≤ 254) (hT : T < 8388608) : Jvm.FP.Core.fits Jvm.FP.Core.b32 (.fin false (8388608 + T) ((E : Int) - 150)) := by rw [← fb_v h1 hE hT]; exact Jvm.FP.Core.val32_fits _
theorem v_2 : Jvm.FP.Core.val32 FP.fconst2 = .fin false 8388608 (-22) := by decide +kernel
theorem v_1 : Jvm.FP.Core.val32 FP.fconst1 = .fin false 8388608 (-23) := by decide +kernel
theorem v_M : Jvm.FP.Core.val32 1258291200 = .fin false 8388608 0 := by decide +kernel
theorem fb_half {E T : Nat} (h1 : 2 ≤ E) (hE : E ≤ 254) (hT : T < 8388608) : FP.fdiv (fb E T) FP.fconst2 = fb (E - 1) T := by
  have hv : Jvm.FP.Core.val32 (FP.fdiv (fb E T) FP.fconst2) = Jvm.FP.Core.val32 (fb (E - 1) T) := by
    rw [show Jvm.FP.Core.val32 (FP.fdiv (fb E T) FP.fconst2) = _ from Jvm.FP.Core.val32_fdiv _ _, v_2, fb_v (by omega) hE hT, fb_v (by omega) (by omega) hT]
    show (if (8388608 : Nat) = 0 then (if 8388608 + T = 0 then Jvm.FP.Core.Datum.nan else .inf (false != false)) else Jvm.FP.Core.roundRatio Jvm.FP.Core.b32 (false != false) (8388608 + T) 8388608 ((E : Int) - 150 - -22)) = _
    rw [if_neg (by decide)]
    refine Jvm.FP.Core.roundRatio_exact Jvm.FP.Core.good_b32 (by decide) (fb_fit (E := E - 1) (by omega) (by omega) hT) ?_
    rw [show ((E : Int) - 150 - -22 - (((E - 1 : Nat) : Int) - 150)).toNat = 23 by omega, show (((E - 1 : Nat) : Int) - 150 - ((E : Int) - 150 - -22)).toNat = 0 by omega]
    omega
  refine (Jvm.FP.Core.val32_inj ?_ hv.symm).symm
  rw [fb_v (by omega) (by omega) hT]
  exact Jvm.FP.Core.Datum.noConfusion
theorem fb_twice {E T : Nat} (h1 : 1 ≤ E) (hE : E ≤ 253) (hT : T < 8388608) : FP.fmul (fb E T) FP.fconst2 = fb (E + 1) T := by
  have hv : Jvm.FP.Core.val32 (FP.fmul (fb E T) FP.fconst2) = Jvm.FP.Core.val32 (fb (E + 1) T) := by
    rw [show Jvm.FP.Core.val32 (FP.fmul (fb E T) FP.fconst2) = _ from Jvm.FP.Core.val32_fmul _ _, v_2, fb_v h1 (by omega) hT, fb_v (by omega) (by omega) hT]
    show Jvm.FP.Core.roundRatio Jvm.FP.Core.b32 (false != false) ((8388608 + T) * 8388608) 1 ((E : Int) - 150 + -22) = _
    refine Jvm.FP.Core.roundRatio_exact Jvm.FP.Core.good_b32 (by decide) (fb_fit (E := E + 1) (by omega) (by omega) hT) ?_
    rw [show ((E : Int) - 150 + -22 - (((E + 1 : Nat) : Int) - 150)).toNat = 0 by omega, show (((E + 1 : Nat) : Int) - 150 - ((E : Int) - 150 + -22)).toNat = 23 by omega]
    omega
  refine (Jvm.FP.Core.val32_inj ?_ hv.symm).symm
  rw [fb_v (by omega) (by omega) hT]
  exact Jvm.FP.Core.Datum.noConfusion
theorem fok_nn {a : UInt32} (h : Fok a) : Jvm.FP.Core.val32 a ≠ .nan := (Jvm.FP.Core.ne_nan32 a).mpr (by have : a.toNat ≤ 2139095040 := h; omega)
theorem fok_cmp {a b : UInt32} (ha : Fok a) (hb : Fok b) : FP.fcmp a b = some (compare (a.toNat : Int) (b.toNat : Int)) := by
  rw [show FP.fcmp a b = _ from Jvm.FP.Core.fcmp_key (fok_nn ha) (fok_nn hb)]
  unfold Jvm.FP.Core.fkey
  have h1 : a.toNat ≤ 2139095040 := ha
  have h2 : b.toNat ≤ 2139095040 := hb
  rw [if_neg (by omega), if_neg (by omega)]
theorem cmp_l {a b : UInt32} {o : CmpOp} (ha : Fok a) (hb : Fok b) : Op.cmpValue (FP.fcmp a b) o = if a.toNat < b.toNat then -1 else if a.toNat = b.toNat then 0 else 1 := by
  rw [fok_cmp ha hb]
  rcases Nat.lt_trichotomy a.toNat b.toNat with z | z | z
  · rw [if_pos z, show compare (a.toNat : Int) (b.toNat : Int) = .lt from by simp only [compare, compareOfLessAndEq]; rw [if_pos (by omega)]]
    rfl
  · rw [if_neg (by omega), if_pos z, show compare (a.toNat : Int) (b.toNat : Int) = .eq from by simp only [compare, compareOfLessAndEq]; rw [if_neg (by omega), if_pos (by omega)]]
    rfl
  · rw [if_neg (by omega), if_neg (by omega), show compare (a.toNat : Int) (b.toNat : Int) = .gt from by simp only [compare, compareOfLessAndEq]; rw [if_neg (by omega), if_neg (by omega)]]
    rfl
theorem n_0 : (FP.fconst0 : UInt32).toNat = 0 := rfl
theorem n_1 : (FP.fconst1 : UInt32).toNat = 127 * 8388608 := by decide
theorem n_2 : (FP.fconst2 : UInt32).toNat = 128 * 8388608 := by decide
theorem f_0 : Fok FP.fconst0 := by show (FP.fconst0 : UInt32).toNat ≤ _; decide
theorem f_1 : Fok FP.fconst1 := by show (FP.fconst1 : UInt32).toNat ≤ _; decide
theorem f_2 : Fok FP.fconst2 := by show (FP.fconst2 : UInt32).toNat ≤ _; decide
theorem fb_less {T : Nat} (hT : T < 8388608) : Jvm.FP.Core.val32 (FP.fsub (fb 127 T) FP.fconst1) = Jvm.FP.Core.round Jvm.FP.Core.b32 (.fin false T (-23)) := by
  rw [show Jvm.FP.Core.val32 (FP.fsub (fb 127 T) FP.fconst1) = _ from Jvm.FP.Core.val32_fsub _ _, v_1, fb_v (by decide) (by decide) hT]
  have hu : Jvm.FP.Core.sumUnits false (8388608 + T) (-23) true 8388608 (-23) (min (-23) (-23)) = (T : Int) := by
    simp only [Jvm.FP.Core.sumUnits, Jvm.FP.Core.signed, Jvm.FP.Core.inUnits, if_true, if_false, Bool.false_eq_true]
    simp
    omega
  show Jvm.FP.Core.round Jvm.FP.Core.b32 (.fin (Jvm.FP.Core.sumSign false true (Jvm.FP.Core.sumUnits false (8388608 + T) (-23) true 8388608 (-23) (min (-23) (-23)))) (Jvm.FP.Core.sumUnits false (8388608 + T) (-23) true 8388608 (-23) (min (-23) (-23))).natAbs (min (-23) (-23))) = _
  rw [hu]
  have hs : Jvm.FP.Core.sumSign false true (T : Int) = false := by
    unfold Jvm.FP.Core.sumSign
    split
    · rfl
    · exact decide_eq_false (by omega)
  rw [hs]
  rfl
theorem fb_tail {T : Nat} (hT : T < 8388608) : (∃ c q, Jvm.FP.Core.val32 (FP.fsub (fb 127 T) FP.fconst1) = .fin false c q) ∧ (Jvm.FP.Core.FInt (T : Int) (FP.fmul (FP.fsub (fb 127 T) FP.fconst1) 1258291200)) := by
  obtain ⟨c, q, h1, h2⟩ := Jvm.FP.Core.round_exact Jvm.FP.Core.good_b32 false (c := T) (q := -23) (Nat.lt_trans hT (by decide)) (by decide) (by decide)
  have hv := fb_less hT
  rw [h1] at hv
  have hq : Jvm.FP.Core.b32.qmin ≤ q := by
    have := Jvm.FP.Core.val32_fits (FP.fsub (fb 127 T) FP.fconst1)
    rw [hv] at this
    exact this.2.1
  refine ⟨⟨c, q, hv⟩, ?_⟩
  unfold Jvm.FP.Core.FInt
  rw [show Jvm.FP.Core.val32 (FP.fmul (FP.fsub (fb 127 T) FP.fconst1) 1258291200) = _ from Jvm.FP.Core.val32_fmul _ _, hv, v_M]
  refine Jvm.FP.Core.whole_round Jvm.FP.Core.good_b32 Jvm.FP.Core.wide_b32 (Nat.le_of_lt (Nat.lt_trans (by omega) (by decide : (8388608 : Nat) < 2 ^ Jvm.FP.Core.b32.p))) ?_
  show Jvm.FP.Core.signed (false != false) (c * 8388608 * 2 ^ (q + 0).toNat) = (T : Int) * ((2 ^ (-(q + 0)).toNat : Nat) : Int)
  have hq2 : (-149 : Int) ≤ q := by rw [Jvm.FP.Core.qmin_b32] at hq; exact hq
  have h3 : c * 2 ^ (q + 149).toNat = T * 2 ^ 126 := by
    unfold Jvm.FP.Core.inUnits at h2
    rw [Jvm.FP.Core.qmin_b32] at h2
    rw [show (q - -149).toNat = (q + 149).toNat by omega] at h2
    exact h2
  show ((c * 8388608 * 2 ^ (q + 0).toNat : Nat) : Int) = _
  rw [← Int.natCast_mul]
  congr 1
  rw [Int.add_zero]
  have h4 : c * 8388608 * 2 ^ q.toNat * 2 ^ 149 = T * 2 ^ (-q).toNat * 2 ^ 149 := by
    have e1 : c * 8388608 * 2 ^ q.toNat * 2 ^ 149 = (c * 2 ^ (q + 149).toNat) * (2 ^ 23 * 2 ^ (-q).toNat) := by
      rw [show c * 8388608 * 2 ^ q.toNat * 2 ^ 149 = c * (2 ^ 23 * (2 ^ q.toNat * 2 ^ 149)) by rw [show (8388608 : Nat) = 2 ^ 23 by decide]; ac_rfl, ← Nat.pow_add,
        show c * 2 ^ (q + 149).toNat * (2 ^ 23 * 2 ^ (-q).toNat) = c * (2 ^ 23 * (2 ^ (q + 149).toNat * 2 ^ (-q).toNat)) by ac_rfl, ← Nat.pow_add, show q.toNat + 149 = (q + 149).toNat + (-q).toNat by omega, Nat.pow_add, Nat.pow_add]
    rw [e1, h3, show T * 2 ^ 126 * (2 ^ 23 * 2 ^ (-q).toNat) = T * 2 ^ (-q).toNat * (2 ^ 126 * 2 ^ 23) by ac_rfl]
  exact Nat.eq_of_mul_eq_mul_right (Nat.two_pow_pos 149) h4
theorem n32_fin {a : UInt32} {s : Bool} {c : Nat} {q : Int} (h : Jvm.FP.Core.val32 a = .fin s c q) : vf_n32 a := by
  have h1 := (Jvm.FP.Core.ne_nan32 a).mp (by rw [h]; exact Jvm.FP.Core.Datum.noConfusion)
  show a &&& 0x7fffffff ≤ 0x7f800000
  rw [UInt32.le_iff_toNat_le, Jvm.FP.Core.mask_toNat32]
  exact h1
theorem n32_int {a : UInt32} {i : Int} (h : Jvm.FP.Core.FInt i a) : vf_n32 a := by
  unfold Jvm.FP.Core.FInt at h
  cases hv : Jvm.FP.Core.val32 a with
  | nan => rw [hv] at h; exact h.elim
  | inf s => rw [hv] at h; exact h.elim
  | fin s c q => exact n32_fin hv
theorem fb_join : ∀ {E T : Nat}, E ≤ 254 → T < 8388608 → ((nI E) <<< ((23 : Int32) &&& 31)) ||| nI T = (fb E T).toInt32 := by
  intro E T hE hT
  refine Int32.toBitVec_inj.mp (BitVec.eq_of_toNat_eq ?_)
  have e1 : ((nI E) <<< ((23 : Int32) &&& 31)).toBitVec = BitVec.ofNat 32 E <<< 23 := rfl
  rw [Int32.toBitVec_or, e1, BitVec.toNat_or, BitVec.toNat_shiftLeft]
  show ((BitVec.ofNat 32 E).toNat <<< 23 % 2 ^ 32) ||| (BitVec.ofNat 32 T).toNat = (fb E T).toNat
  rw [fb_n hE hT, BitVec.toNat_ofNat, BitVec.toNat_ofNat, Nat.mod_eq_of_lt (show E < 2 ^ 32 by omega), Nat.mod_eq_of_lt (show T < 2 ^ 32 by omega), Nat.shiftLeft_eq, Nat.mod_eq_of_lt (show E * 2 ^ 23 < 2 ^ 32 by omega), ← Nat.shiftLeft_eq, ← Nat.shiftLeft_add_eq_or_of_lt (show T < 2 ^ 23 by omega), Nat.shiftLeft_eq]
theorem fb_of {b : UInt32} (h : 8388608 ≤ b.toNat) (h2 : b.toNat < 2139095040) : ∃ E T, 1 ≤ E ∧ E ≤ 254 ∧ T < 8388608 ∧ b = fb E T := by
  refine ⟨b.toNat / 8388608, b.toNat % 8388608, by omega, by omega, by omega, UInt32.toNat_inj.mp ?_⟩
  rw [fb_n (by omega) (by omega)]
  omega
