/-! A MEAN OF WAITS is 0 or a normal number -/
section Nrm
theorem un_min : Jvm.FP.Core.unitsOf Jvm.FP.Core.b32 8388608 = 8388608 := by decide +kernel
theorem un_max : 2 ^ 205 ≤ Jvm.FP.Core.unitsOf Jvm.FP.Core.b32 2139095039 := by decide +kernel
theorem fdiv_nrm {a b : UInt32} (ha : 127 * 8388608 ≤ a.toNat) (ha2 : a.toNat < 160 * 8388608) (hb : 127 * 8388608 ≤ b.toNat) (hb2 : b.toNat < 160 * 8388608) : 8388608 ≤ (FP.fdiv a b).toNat ∧ (FP.fdiv a b).toNat < 2139095040 := by
  have fk := fdiv_ok (a := a) (b := b) (by omega) (by omega) (by omega)
  obtain ⟨E, T, h1, h2, h3, rfl⟩ := fb_of (b := a) (by omega) (by omega)
  obtain ⟨E', T', k1, k2, k3, rfl⟩ := fb_of (b := b) (by omega) (by omega)
  rw [fb_n h2 h3] at ha ha2
  rw [fb_n k2 k3] at hb hb2
  have hd : Jvm.FP.Core.decode Jvm.FP.Core.b32 (FP.fdiv (fb E T) (fb E' T')).toNat = Jvm.FP.Core.roundRatio Jvm.FP.Core.b32 false (8388608 + T) (8388608 + T') (((E : Int) - 150) - ((E' : Int) - 150)) := by
    have h := Jvm.FP.Core.val32_fdiv (fb E T) (fb E' T')
    rw [fb_v h1 h2 h3, fb_v k1 k2 k3] at h
    refine Eq.trans h ?_
    show (if 8388608 + T' = 0 then _ else Jvm.FP.Core.roundRatio Jvm.FP.Core.b32 (false != false) (8388608 + T) (8388608 + T') (((E : Int) - 150) - ((E' : Int) - 150))) = _
    rw [if_neg (by omega)]
    rfl
  have mg : Jvm.FP.Core.mag Jvm.FP.Core.b32 (FP.fdiv (fb E T) (fb E' T')).toNat = (FP.fdiv (fb E T) (fb E' T')).toNat := fp_mag fk
  have q0 : Jvm.FP.Core.b32.qmin = -149 := rfl
  have z0 : (Jvm.FP.Core.b32.qmin - Jvm.FP.Core.b32.qmin).toNat = 0 := by omega
  obtain ⟨k, ek⟩ : ∃ k : Nat, ((((E : Int) - 150) - ((E' : Int) - 150)) - Jvm.FP.Core.b32.qmin).toNat = k := ⟨_, rfl⟩
  have kl : 117 ≤ k := by rw [q0] at ek; omega
  have kh : k ≤ 181 := by rw [q0] at ek; omega
  have p1 : 2 ^ 117 ≤ 2 ^ k := Nat.pow_le_pow_right (by decide) kl
  have p2 : 2 ^ k ≤ 2 ^ 181 := Nat.pow_le_pow_right (by decide) kh
  have iu : Jvm.FP.Core.inUnits (8388608 + T) (((E : Int) - 150) - ((E' : Int) - 150)) Jvm.FP.Core.b32.qmin = (8388608 + T) * 2 ^ k := by
    unfold Jvm.FP.Core.inUnits
    rw [ek]
  have lo := Jvm.FP.Core.mag_ge Jvm.FP.Core.good_b32 (m := 8388608) (e0 := Jvm.FP.Core.b32.qmin) hd (by omega) (Int.le_refl _) (by rw [q0]; omega) (by rw [Jvm.FP.Core.infBits_b32]; omega) (by
    rw [iu, un_min, z0, Nat.pow_zero, Nat.mul_one]
    exact Nat.mul_le_mul (by omega) (Nat.le_trans (by have : 2 ^ 24 ≤ 2 ^ 117 := by decide
                                                      omega) p1))
  have hi := Jvm.FP.Core.mag_le Jvm.FP.Core.good_b32 (m := 2139095039) (e0 := Jvm.FP.Core.b32.qmin) hd (by omega) (Int.le_refl _) (by rw [q0]; omega) (by
    rw [iu, z0, Nat.pow_zero, Nat.mul_one]
    refine Nat.le_trans (Nat.mul_le_mul (show 8388608 + T ≤ 2 ^ 24 by omega) p2) ?_
    rw [← Nat.pow_add]
    exact Nat.le_trans un_max (Nat.le_mul_of_pos_right _ (by omega)))
  rw [mg] at lo hi
  omega
theorem nrm_ok (n w : Nat) (h1 : 1 ≤ n) (h2 : n ≤ 20) (hw : w ≤ n * 200) : (FP.fdiv (FP.i2f (nI w)) (FP.i2f (nI n))).toNat = 0 ∨ (8388608 ≤ (FP.fdiv (FP.i2f (nI w)) (FP.i2f (nI n))).toNat ∧ (FP.fdiv (FP.i2f (nI w)) (FP.i2f (nI n))).toNat < 2139095040) := by
  have rg : ∀ v : Nat, 1 ≤ v → v < 10000 → 127 * 8388608 ≤ (FP.i2f (nI v)).toNat ∧ (FP.i2f (nI v)).toNat < 160 * 8388608 := fun v q1 q2 => by
    have a1 := Jvm.FP.Core.i2f_mag (nI v)
    have a2 := Jvm.FP.Core.i2f_big (v := nI v) (by rw [nI_toInt (by omega)]; omega)
    have a3 := (i2f_n (w := v) (by omega)).1
    have e : Jvm.FP.Core.i2f (nI v) = FP.i2f (nI v) := rfl
    rw [e] at a1 a2
    omega
  rcases Nat.eq_zero_or_pos w with z | z
  · subst z
    refine Or.inl ?_
    exact (by decide +kernel : ∀ n, n < 20 → (FP.fdiv (FP.i2f (nI 0)) (FP.i2f (nI (n + 1)))).toNat = 0) (n - 1) (by omega) |> fun h => by rw [Nat.sub_add_cancel h1] at h; exact h
  · have r1 := rg w z (by omega)
    have r2 := rg n h1 (by omega)
    exact Or.inr (fdiv_nrm r1.1 r1.2 r2.1 r2.2)
end Nrm
