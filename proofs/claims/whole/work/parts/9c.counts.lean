/-! Long.bitCount, numberOfTrailingZeros; the class's riders overtaken -/
theorem cC_d (k n : Nat) : cC (k + 1) n = 256 * cC k (n / 256) + pC (n % 256) := by
  have h := cC_s k (n / 256) (n % 256) (Nat.mod_lt _ (by decide))
  rw [Nat.div_add_mod] at h
  exact h
theorem ct_d (n m : Nat) : fb_ct n.testBit (8 + m) = pC (n % 256) + fb_ct (n / 256).testBit m := by
  have h := ct_byte (n / 256) (n % 256) m (Nat.mod_lt _ (by decide))
  rw [Nat.div_add_mod] at h
  rw [h, (pByte _ (Nat.mod_lt _ (by decide))).2.2.2]
theorem pC_8 (n : Nat) : pC (n % 256) ≤ 8 := by
  rw [(pByte _ (Nat.mod_lt _ (by decide))).2.2.2]
  exact fb_ct_le _ 8
theorem cC_0 (n : Nat) : cC 0 n = 0 := by simp [cC, mkB]
/-- the bytes of the count, one by one -/
theorem bytes8 (n : Nat) : ∃ a b c d e f g h C1 C2 C3 C4 C5 C6 C7 : Nat, a ≤ 8 ∧ b ≤ 8 ∧ c ≤ 8 ∧ d ≤ 8 ∧ e ≤ 8 ∧ f ≤ 8 ∧ g ≤ 8 ∧ h ≤ 8 ∧ cC 8 n = 256 * C1 + a ∧ C1 = 256 * C2 + b ∧ C2 = 256 * C3 + c ∧ C3 = 256 * C4 + d ∧ C4 = 256 * C5 + e ∧ C5 = 256 * C6 + f ∧ C6 = 256 * C7 + g ∧ C7 = h ∧ fb_ct n.testBit 64 = a + (b + (c + (d + (e + (f + (g + h)))))) := by
  refine ⟨_, _, _, _, _, _, _, _, _, _, _, _, _, _, _, pC_8 n, pC_8 (n / 256), pC_8 (n / 256 / 256), pC_8 (n / 256 / 256 / 256), pC_8 (n / 256 / 256 / 256 / 256), pC_8 (n / 256 / 256 / 256 / 256 / 256), pC_8 (n / 256 / 256 / 256 / 256 / 256 / 256), pC_8 (n / 256 / 256 / 256 / 256 / 256 / 256 / 256), cC_d 7 n, cC_d 6 _, cC_d 5 _, cC_d 4 _, cC_d 3 _, cC_d 2 _, cC_d 1 _, ?_, ?_⟩
  · rw [cC_d 0, cC_0]; omega
  · rw [show 64 = 8 + (8 + (8 + (8 + (8 + (8 + (8 + (8 + 0))))))) from rfl, ct_d, ct_d, ct_d, ct_d, ct_d, ct_d, ct_d, ct_d]
    rfl
theorem bL_lN {n : Nat} (i : Nat) (hi : i < 64) : bL (lN n) i = n.testBit i := by
  show (BitVec.ofNat 64 n).getLsbD i = _
  rw [BitVec.getLsbD_ofNat]
  simp [hi]
theorem lusL {n k : Nat} (hn : n < 2 ^ 64) (hk : k < 64) : lus (lN n) (nI k) = lN (n / 2 ^ k) := wb_shr hn hk
theorem L85 : (6148914691236517205 : Int64) = lN (mkB 85 8) := by decide +kernel
theorem L51 : (3689348814741910323 : Int64) = lN (mkB 51 8) := by decide +kernel
theorem L15 : (1085102592571150095 : Int64) = lN (mkB 15 8) := by decide +kernel
theorem cq3 {C C1 C2 C3 C4 C5 C6 C7 a b c d e f g : Nat} (ha : a ≤ 8) (hb : b ≤ 8) (hc : c ≤ 8) (hd : d ≤ 8) (he : e ≤ 8) (hf : f ≤ 8) (hg : g ≤ 8) (w0 : C = 256 * C1 + a) (w1 : C1 = 256 * C2 + b) (w2 : C2 = 256 * C3 + c) (w3 : C3 = 256 * C4 + d) (w4 : C4 = 256 * C5 + e) (w5 : C5 = 256 * C6 + f) (w6 : C6 = 256 * C7 + g) : (C + C1 + (C2 + C3)) / 2 ^ 32 = C4 + C5 + (C6 + C7) := by
  have v0 : C = 4294967296 * C4 + (16777216 * d + 65536 * c + 256 * b + a) := by rw [w0, w1, w2, w3]; clear w0 w1 w2 w3 w4 w5 w6 ha hb hc hd he hf hg; omega
  have v1 : C1 = 4294967296 * C5 + (16777216 * e + 65536 * d + 256 * c + b) := by rw [w1, w2, w3, w4]; clear v0 w0 w1 w2 w3 w4 w5 w6 ha hb hc hd he hf hg; omega
  have v2 : C2 = 4294967296 * C6 + (16777216 * f + 65536 * e + 256 * d + c) := by rw [w2, w3, w4, w5]; clear v0 v1 w0 w1 w2 w3 w4 w5 w6 ha hb hc hd he hf hg; omega
  have v3 : C3 = 4294967296 * C7 + (16777216 * g + 65536 * f + 256 * e + d) := by rw [w3, w4, w5, w6]; clear v0 v1 v2 w0 w1 w2 w3 w4 w5 w6 ha hb hc hd he hf hg; omega
  have t : C + C1 + (C2 + C3) = 2 ^ 32 * (C4 + C5 + (C6 + C7)) + (16777216 * (d + e + f + g) + 65536 * (c + d + e + f) + 256 * (b + c + d + e) + (a + b + c + d)) := by
    rw [v0, v1, v2, v3]
    clear v0 v1 v2 v3 w0 w1 w2 w3 w4 w5 w6 ha hb hc hd he hf hg
    omega
  have r : 16777216 * (d + e + f + g) + 65536 * (c + d + e + f) + 256 * (b + c + d + e) + (a + b + c + d) < 2 ^ 32 := by
    clear t v0 v1 v2 v3 w0 w1 w2 w3 w4 w5 w6
    omega
  rw [t, Nat.mul_add_div (by decide), Nat.div_eq_of_lt r, Nat.add_zero]
theorem cq4 {C C1 C2 C3 C4 C5 C6 C7 a b c d e f g h : Nat} (ha : a ≤ 8) (hb : b ≤ 8) (hc : c ≤ 8) (hd : d ≤ 8) (he : e ≤ 8) (hf : f ≤ 8) (hg : g ≤ 8) (hh : h ≤ 8) (w0 : C = 256 * C1 + a) (w1 : C1 = 256 * C2 + b) (w2 : C2 = 256 * C3 + c) (w3 : C3 = 256 * C4 + d) (w4 : C4 = 256 * C5 + e) (w5 : C5 = 256 * C6 + f) (w6 : C6 = 256 * C7 + g) (w7 : C7 = h) : (C + C1 + (C2 + C3) + (C4 + C5 + (C6 + C7))) % 2 ^ 7 = a + (b + (c + (d + (e + (f + (g + h)))))) := by
  have t : C + C1 + (C2 + C3) + (C4 + C5 + (C6 + C7)) = 2 ^ 7 * (2 * (C1 + C2 + C3 + C4 + C5 + C6 + C7)) + (a + (b + (c + (d + (e + (f + (g + h))))))) := by
    have z : C + C1 + (C2 + C3) + (C4 + C5 + (C6 + C7)) = (256 * C1 + a) + (256 * C2 + b) + ((256 * C3 + c) + (256 * C4 + d)) + ((256 * C5 + e) + (256 * C6 + f) + ((256 * C7 + g) + h)) := by
      rw [← w0, ← w1, ← w2, ← w3, ← w4, ← w5, ← w6, ← w7]
    rw [z]
    clear z w0 w1 w2 w3 w4 w5 w6 w7 ha hb hc hd he hf hg hh
    omega
  have r : a + (b + (c + (d + (e + (f + (g + h)))))) < 2 ^ 7 := by
    clear t w0 w1 w2 w3 w4 w5 w6 w7
    omega
  rw [t, Nat.mul_add_mod, Nat.mod_eq_of_lt r]
theorem bcL (v : Int64) : ∀ y1 : Int64, y1 = (((v - ((lus v 1) &&& 6148914691236517205)) &&& 3689348814741910323) + ((lus (v - ((lus v 1) &&& 6148914691236517205)) 2) &&& 3689348814741910323)) → ∀ y3 : Int64, y3 = (((y1 + (lus y1 4)) &&& 1085102592571150095) + (lus ((y1 + (lus y1 4)) &&& 1085102592571150095) 8)) → (((y3 + (lus y3 16)) + (lus (y3 + (lus y3 16)) 32)).toInt32 &&& 127) = nI (fb_ct (bL v) 64) := by
  obtain ⟨n, hn, rfl⟩ := wb_of v
  have e0 : fb_ct (bL (lN n)) 64 = fb_ct n.testBit 64 := fb_ct_cong fun k hk => bL_lN k hk
  obtain ⟨a, b, c, d, e, f, g, h, C1, C2, C3, C4, C5, C6, C7, ha, hb, hc, hd, he, hf, hg, hh, w0, w1, w2, w3, w4, w5, w6, w7, e2⟩ := bytes8 n
  rw [e0, e2]
  have hA : cA 8 n ≤ n := Nat.sub_le _ _
  have m85 : mkB 85 8 = 6148914691236517205 := by decide +kernel
  have m51 : mkB 51 8 = 3689348814741910323 := by decide +kernel
  have m15 : mkB 15 8 = 1085102592571150095 := by decide +kernel
  have s1 : lN n - ((lus (lN n) 1) &&& 6148914691236517205) = lN (cA 8 n) := by
    rw [show lus (lN n) 1 = lN (n / 2 ^ 1) from lusL (k := 1) hn (by decide), show (6148914691236517205 : Int64) = lN (mkB 85 8) from L85, fb_andL, lN_sub (Nat.le_trans Nat.and_le_left (Nat.div_le_self _ _))]
    rfl
  have s2 : (lN (cA 8 n) &&& 3689348814741910323) + ((lus (lN (cA 8 n)) 2) &&& 3689348814741910323) = lN (cB 8 n) := by
    rw [show lus (lN (cA 8 n)) 2 = lN (cA 8 n / 2 ^ 2) from lusL (k := 2) (by omega) (by decide), show (3689348814741910323 : Int64) = lN (mkB 51 8) from L51, fb_andL, fb_andL, lN_add]
    rfl
  have hB : cB 8 n < 2 ^ 64 := by
    have h1 : cA 8 n &&& mkB 51 8 ≤ mkB 51 8 := Nat.and_le_right
    have h2 : (cA 8 n / 4) &&& mkB 51 8 ≤ mkB 51 8 := Nat.and_le_right
    unfold cB
    omega
  have s3 : (lN (cB 8 n) + (lus (lN (cB 8 n)) 4)) &&& 1085102592571150095 = lN (cC 8 n) := by
    rw [show lus (lN (cB 8 n)) 4 = lN (cB 8 n / 2 ^ 4) from lusL (k := 4) hB (by decide), lN_add, show (1085102592571150095 : Int64) = lN (mkB 15 8) from L15, fb_andL]
    rfl
  have hCle : cC 8 n ≤ mkB 15 8 := Nat.and_le_right
  rw [m15] at hCle
  rw [s1, s2]
  rintro _ rfl
  rw [s3]
  generalize cC 8 n = C at w0 hCle ⊢
  rintro _ rfl
  have q1 : C / 2 ^ 8 = C1 := by omega
  rw [show lus (lN C) 8 = lN (C / 2 ^ 8) from lusL (k := 8) (by omega) (by decide), lN_add, q1]
  have q2 : (C + C1) / 2 ^ 16 = C2 + C3 := by
    have : C + C1 = 65536 * (C2 + C3) + (256 * (b + c) + (a + b)) := by omega
    rw [this]
    omega
  rw [show lus (lN (C + C1)) 16 = lN ((C + C1) / 2 ^ 16) from lusL (k := 16) (by omega) (by decide), lN_add, q2]
  have hlt : C + C1 + (C2 + C3) < 2 ^ 64 := by
    have l1 : C1 ≤ C := by omega
    have l2 : C2 ≤ C1 := by omega
    have l3 : C3 ≤ C2 := by omega
    clear w0 w1 w2 w3 w4 w5 w6 w7 q1 q2 hB hA
    omega
  have q3 : (C + C1 + (C2 + C3)) / 2 ^ 32 = C4 + C5 + (C6 + C7) := cq3 ha hb hc hd he hf hg w0 w1 w2 w3 w4 w5 w6
  rw [show lus (lN (C + C1 + (C2 + C3))) 32 = lN ((C + C1 + (C2 + C3)) / 2 ^ 32) from lusL (k := 32) hlt (by decide), lN_add, lN_i, q3]
  rw [show (127 : Int32) = nI (2 ^ 7 - 1) from rfl, nx_and, Nat.and_two_pow_sub_one_eq_mod]
  exact congrArg nI (cq4 ha hb hc hd he hf hg hh w0 w1 w2 w3 w4 w5 w6 w7)
theorem k_bitCountL {l : Launch} {x : CX} {v : Int64} {g : PH} : CI l x mJ13_bitCount_95d88 0 0 0 [.long v] g (fun r h' => r = nI (fb_ct (bL v) 64) ∧ h' = g) := by
  refine Cm.of (by decide) (Nat.le_of_ble_eq_true rfl) (vJ13_bitCount_95d88_0 ?_)
  intro y1 e1 y3 e3
  exact ⟨_, rfl, bcL v y1 e1 y3 e3, rfl⟩
theorem tz_low {n k : Nat} (hk : k < 32) (h1 : n.testBit k = true) (h2 : ∀ i, i < k → n.testBit i = false) : ((nI n ^^^ (-1)) &&& (nI n - 1)) = nI (2 ^ k - 1) := by
  -- n is 2^k times an odd number
  have e : n = 2 ^ (k + 1) * (n / 2 ^ (k + 1)) + 2 ^ k := by
    refine Nat.eq_of_testBit_eq fun i => ?_
    rw [Nat.testBit_two_pow_mul_add _ (show 2 ^ k < 2 ^ (k + 1) from Nat.pow_lt_pow_right (by decide) (by omega))]
    by_cases z : i < k + 1
    · rw [if_pos z]
      by_cases y : i = k
      · rw [y, h1, Nat.testBit_two_pow_self]
      · rw [h2 i (by omega), Nat.testBit_two_pow_of_ne (Ne.symm y)]
    · rw [if_neg z, Nat.testBit_div_two_pow]
      congr 1
      omega
  have hp : 0 < 2 ^ k := Nat.two_pow_pos k
  have e1 : n - 1 = 2 ^ (k + 1) * (n / 2 ^ (k + 1)) + (2 ^ k - 1) := by omega
  rw [show nI n - 1 = nI (n - 1) from pk_sub (b := 1) (by omega)]
  refine b_ext fun i hi => ?_
  rw [b_and, b_xor, b_m1 i hi, bt_nI i hi, bt_nI i hi, bt_nI i hi, Nat.testBit_two_pow_sub_one]
  have e2 : (n - 1).testBit i = if i < k + 1 then decide (i < k) else n.testBit i := by
    rw [e1, Nat.testBit_two_pow_mul_add _ (show 2 ^ k - 1 < 2 ^ (k + 1) from by have := Nat.pow_lt_pow_right (a := 2) (by decide) (show k < k + 1 by omega); omega)]
    by_cases z : i < k + 1
    · rw [if_pos z, if_pos z, Nat.testBit_two_pow_sub_one]
    · rw [if_neg z, if_neg z, Nat.testBit_div_two_pow]
      congr 1
      omega
  rw [e2]
  by_cases z : i < k + 1
  · rw [if_pos z]
    by_cases y : i = k
    · subst y
      rw [h1]
      simp
    · rw [h2 i (by omega)]
      simp
  · rw [if_neg z, decide_eq_false (by omega)]
    cases n.testBit i <;> rfl
def ntzV (y : Int32) : Int32 :=
  if 0 < y then
    (if (if y ≤ 65536 then y else (ius y 16) : Int32) ≤ 256 then
      (if (if y ≤ 65536 then y else (ius y 16) : Int32) ≤ 16 then
        (if (if y ≤ 65536 then y else (ius y 16) : Int32) ≤ 4 then ((if y ≤ 65536 then 1 else (1 + 16) : Int32) + (ius (if y ≤ 65536 then y else (ius y 16) : Int32) 1)) else (((if y ≤ 65536 then 1 else (1 + 16) : Int32) + 2) + (ius (ius (if y ≤ 65536 then y else (ius y 16) : Int32) 2) 1)))
      else ((if (ius (if y ≤ 65536 then y else (ius y 16) : Int32) 4) ≤ 4 then ((if y ≤ 65536 then 1 else (1 + 16) : Int32) + 4) else (((if y ≤ 65536 then 1 else (1 + 16) : Int32) + 4) + 2) : Int32) + (ius (if (ius (if y ≤ 65536 then y else (ius y 16) : Int32) 4) ≤ 4 then (ius (if y ≤ 65536 then y else (ius y 16) : Int32) 4) else (ius (ius (if y ≤ 65536 then y else (ius y 16) : Int32) 4) 2) : Int32) 1)))
    else (if (if (ius (if y ≤ 65536 then y else (ius y 16) : Int32) 8) ≤ 16 then (ius (if y ≤ 65536 then y else (ius y 16) : Int32) 8) else (ius (ius (if y ≤ 65536 then y else (ius y 16) : Int32) 8) 4) : Int32) ≤ 4 then ((if (ius (if y ≤ 65536 then y else (ius y 16) : Int32) 8) ≤ 16 then ((if y ≤ 65536 then 1 else (1 + 16) : Int32) + 8) else (((if y ≤ 65536 then 1 else (1 + 16) : Int32) + 8) + 4) : Int32) + (ius (if (ius (if y ≤ 65536 then y else (ius y 16) : Int32) 8) ≤ 16 then (ius (if y ≤ 65536 then y else (ius y 16) : Int32) 8) else (ius (ius (if y ≤ 65536 then y else (ius y 16) : Int32) 8) 4) : Int32) 1)) else (((if (ius (if y ≤ 65536 then y else (ius y 16) : Int32) 8) ≤ 16 then ((if y ≤ 65536 then 1 else (1 + 16) : Int32) + 8) else (((if y ≤ 65536 then 1 else (1 + 16) : Int32) + 8) + 4) : Int32) + 2) + (ius (ius (if (ius (if y ≤ 65536 then y else (ius y 16) : Int32) 8) ≤ 16 then (ius (if y ≤ 65536 then y else (ius y 16) : Int32) 8) else (ius (ius (if y ≤ 65536 then y else (ius y 16) : Int32) 8) 4) : Int32) 2) 1))))
  else (y &&& 32)
theorem ntz_k : ∀ k, k < 32 → ntzV (nI (2 ^ k - 1)) = nI k := by decide +kernel
theorem k_ntz {l : Launch} {x : CX} {n k : Nat} {g : PH} (hk : k < 32) (h1 : n.testBit k = true) (h2 : ∀ i, i < k → n.testBit i = false) : CI l x mJ6_numberOfTrailingZeros_0f7a4 0 0 0 [.int (nI n)] g (fun r h' => r = nI k ∧ h' = g) := by
  have e := tz_low hk h1 h2
  refine Cm.of (by decide) (Nat.le_of_ble_eq_true rfl) (vJ6_numberOfTrailingZeros_0f7a4_0 ?_)
  have hy := ntz_k k hk
  rw [e]
  generalize nI (2 ^ k - 1) = y at hy
  generalize nI k = v at hy
  subst hy
  refine ⟨fun e1 => ⟨fun e2 => ⟨fun e3 => ⟨fun e4 => ⟨_, rfl, ?_, rfl⟩, fun e4 y6 h6 => ⟨_, rfl, ?_, rfl⟩⟩, fun e3 y8 h8 => ⟨_, rfl, ?_, rfl⟩⟩, fun e2 y11 h11 => ⟨fun e3 => ⟨_, rfl, ?_, rfl⟩, fun e3 => ⟨_, rfl, ?_, rfl⟩⟩⟩, fun e1 => ⟨_, rfl, ?_, rfl⟩⟩
  · unfold ntzV; rw [if_pos e1, if_pos e2, if_pos e3, if_pos e4]
  · subst h6; unfold ntzV; rw [if_pos e1, if_pos e2, if_pos e3, if_neg e4]
  · subst h8; unfold ntzV; rw [if_pos e1, if_pos e2, if_neg e3]
  · subst h11; unfold ntzV; rw [if_pos e1, if_neg e2, if_pos e3]
  · subst h11; unfold ntzV; rw [if_pos e1, if_neg e2, if_neg e3]
  · unfold ntzV; rw [if_neg e1]
theorem k_ntzL {l : Launch} {x : CX} {v : Int64} {k : Nat} {g : PH} (hk : k < 64) (h1 : bL v k = true) (h2 : ∀ i, i < k → bL v i = false) : CI l x mJ13_numberOfTrailingZeros_95d88 1 0 0 [.long v] g (fun r h' => r = nI k ∧ h' = g) := by
  obtain ⟨n, hn, rfl⟩ := wb_of v
  rw [bL_lN k hk] at h1
  have h2' : ∀ i, i < k → n.testBit i = false := fun i hi => by rw [← bL_lN i (by omega)]; exact h2 i hi
  have e0 : (lN n).toInt32 = 0 ↔ 32 ≤ k := by
    rw [lN_i]
    constructor
    · intro z
      refine Nat.le_of_not_lt fun y => ?_
      have := congrArg (fun w => bt w k) z
      simp only [bt_nI k y, b_0, h1] at this
      cases this
    · intro z
      refine b_ext fun i hi => ?_
      rw [bt_nI i hi, b_0]
      exact h2' i (by omega)
  refine Cm.of (by decide) (Nat.le_of_ble_eq_true rfl) (vJ13_numberOfTrailingZeros_95d88_0 ⟨fun e => ?_, fun e => ?_⟩)
  · have hk2 : k < 32 := Nat.lt_of_not_le fun z => e (e0.mpr z)
    rw [lN_i]
    refine ⟨_, k_ntz hk2 h1 h2', ?_⟩
    rintro _ _ ⟨rfl, rfl⟩
    exact ⟨_, rfl, rfl, rfl⟩
  · have hk2 := e0.mp e
    rw [show lus (lN n) 32 = lN (n / 2 ^ 32) from lusL (k := 32) hn (by decide), lN_i]
    refine ⟨_, k_ntz (n := n / 2 ^ 32) (k := k - 32) (by omega) ?_ (fun i hi => ?_), ?_⟩
    · rw [Nat.testBit_div_two_pow, show k - 32 + 32 = k by omega]; exact h1
    · rw [Nat.testBit_div_two_pow]; exact h2' _ (by omega)
    · rintro _ _ ⟨rfl, rfl⟩
      refine ⟨_, rfl, ?_, rfl⟩
      rw [show (32 : Int32) = nI 32 from rfl, nI_add, show 32 + (k - 32) = k by omega]
