/-! BITS: rows of the kit (BITS, COUNTS), pasted; how many bits a number has -/
/-! ===== Int32 by its bits: bt x i ===== -/
def bt (x : Int32) (i : Nat) : Bool := x.toBitVec.getLsbD i
theorem b_ext {x y : Int32} (h : ∀ i, i < 32 → bt x i = bt y i) : x = y := Int32.toBitVec_inj.mp (BitVec.eq_of_getLsbD_eq (fun i hi => h i hi))
theorem b_or (x y : Int32) (i : Nat) : bt (x ||| y) i = (bt x i || bt y i) := by unfold bt; rw [Int32.toBitVec_or, BitVec.getLsbD_or]
theorem b_and (x y : Int32) (i : Nat) : bt (x &&& y) i = (bt x i && bt y i) := by unfold bt; rw [Int32.toBitVec_and, BitVec.getLsbD_and]
theorem b_xor (x y : Int32) (i : Nat) : bt (x ^^^ y) i = (bt x i ^^ bt y i) := by unfold bt; rw [Int32.toBitVec_xor, BitVec.getLsbD_xor]
theorem b_big {x : Int32} {i : Nat} (h : 32 ≤ i) : bt x i = false := BitVec.getLsbD_of_ge _ _ h
theorem b_255 (i : Nat) : bt 255 i = decide (i < 8) := by
  rcases Nat.lt_or_ge i 32 with h | h
  · exact (by decide +kernel : ∀ i, i < 32 → bt 255 i = decide (i < 8)) i h
  · rw [b_big h, decide_eq_false (by omega)]
theorem b_65535 (i : Nat) : bt 65535 i = decide (i < 16) := by
  rcases Nat.lt_or_ge i 32 with h | h
  · exact (by decide +kernel : ∀ i, i < 32 → bt 65535 i = decide (i < 16)) i h
  · rw [b_big h, decide_eq_false (by omega)]
theorem b_m1 : ∀ i, i < 32 → bt (-1) i = true := by decide +kernel
theorem b_0 (i : Nat) : bt 0 i = false := BitVec.getLsbD_zero
theorem s_l : ∀ n, n < 32 → ((nI n &&& 31).toBitVec.smod 32).toNat = n := by decide +kernel
theorem s_u : ∀ n, n < 32 → (((nI n).toUInt32 &&& Int32.toUInt32 31).toBitVec % 32).toNat = n := by decide +kernel
theorem b_shl (n : Nat) (hn : n < 32) (x : Int32) {i : Nat} (hi : i < 32) : bt (x <<< (nI n &&& 31)) i = (decide (n ≤ i) && bt x (i - n)) := by
  unfold bt
  rw [Int32.toBitVec_shiftLeft]
  show (x.toBitVec <<< ((nI n &&& 31).toBitVec.smod 32).toNat).getLsbD i = _
  rw [s_l n hn, BitVec.getLsbD_shiftLeft]
  rcases Nat.lt_or_ge i n with h | h
  · simp [h, Nat.not_le.mpr h]
  · simp [hi, h, Nat.not_lt.mpr h]
theorem b_ushr (n : Nat) (hn : n < 32) (x : Int32) (i : Nat) : bt ((x.toUInt32 >>> ((nI n).toUInt32 &&& Int32.toUInt32 31)).toInt32) i = bt x (n + i) := by
  show (x.toUInt32 >>> ((nI n).toUInt32 &&& Int32.toUInt32 31)).toBitVec.getLsbD i = x.toUInt32.toBitVec.getLsbD (n + i)
  rw [UInt32.toBitVec_shiftRight]
  show (x.toUInt32.toBitVec >>> (((nI n).toUInt32 &&& Int32.toUInt32 31).toBitVec % 32).toNat).getLsbD i = _
  rw [s_u n hn, BitVec.getLsbD_ushiftRight]
theorem b_sshr (n : Nat) (hn : n < 32) (x : Int32) {i : Nat} (hi : i < 32) : bt (x >>> (nI n &&& 31)) i = if n + i < 32 then bt x (n + i) else bt x 31 := by
  unfold bt
  rw [Int32.toBitVec_shiftRight]
  show (x.toBitVec.sshiftRight ((nI n &&& 31).toBitVec.smod 32).toNat).getLsbD i = _
  rw [s_l n hn, BitVec.getLsbD_sshiftRight, BitVec.msb_eq_getLsbD_last]
  simp [hi]
theorem b_shl8 (x : Int32) {i : Nat} (hi : i < 32) : bt (x <<< ((8 : Int32) &&& 31)) i = (decide (8 ≤ i) && bt x (i - 8)) := b_shl 8 (by omega) x hi
theorem b_shl16 (x : Int32) {i : Nat} (hi : i < 32) : bt (x <<< ((16 : Int32) &&& 31)) i = (decide (16 ≤ i) && bt x (i - 16)) := b_shl 16 (by omega) x hi
theorem b_shl24 (x : Int32) {i : Nat} (hi : i < 32) : bt (x <<< ((24 : Int32) &&& 31)) i = (decide (24 ≤ i) && bt x (i - 24)) := b_shl 24 (by omega) x hi
theorem b_sshr8 (x : Int32) {i : Nat} (hi : i < 32) : bt (x >>> ((8 : Int32) &&& 31)) i = if 8 + i < 32 then bt x (8 + i) else bt x 31 := b_sshr 8 (by omega) x hi
theorem nx_and (a b : Nat) : nI a &&& nI b = nI (a &&& b) := by
  apply Int32.toBitVec_inj.1
  show BitVec.ofNat 32 a &&& BitVec.ofNat 32 b = BitVec.ofNat 32 (a &&& b)
  apply BitVec.eq_of_getLsbD_eq
  intro i hi
  simp [hi]
/-! ===== lN n to 2^64: shifts, and, or, masks, one bit ===== -/
theorem wb_tb (n : Nat) : (lN n).toBitVec = BitVec.ofNat 64 n := rfl
theorem wb_inj {a b : Int64} (h : a.toBitVec = b.toBitVec) : a = b := Int64.toBitVec_inj.mp h
theorem wb_tn {n : Nat} (h : n < 2 ^ 64) : (lN n).toBitVec.toNat = n := by rw [wb_tb, BitVec.toNat_ofNat, Nat.mod_eq_of_lt h]
theorem wb_of (x : Int64) : ∃ n, n < 2 ^ 64 ∧ x = lN n := ⟨x.toBitVec.toNat, x.toBitVec.isLt, wb_inj (by rw [wb_tb]; simp)⟩
theorem wb_of32 (x : Int32) : ∃ n, n < 2 ^ 32 ∧ x = nI n := ⟨x.toBitVec.toNat, x.toBitVec.isLt, Int32.toBitVec_inj.mp (by show _ = BitVec.ofNat 32 _; simp)⟩
theorem wb_c : ∀ k, k < 64 → ((nI k).toInt64 &&& 63) = lN k := by decide +kernel
theorem wb_cu : ∀ k, k < 64 → ((nI k).toInt64.toUInt64 &&& Int64.toUInt64 63) = UInt64.ofNat k := by decide +kernel
theorem wb_sm : ∀ k, k < 64 → (BitVec.ofNat 64 k).smod 64 = BitVec.ofNat 64 k := by decide +kernel
theorem wb_pw {a b : Nat} (h : a ≤ b) : 2 ^ b = 2 ^ a * 2 ^ (b - a) := by rw [← Nat.pow_add]; congr 1; omega
theorem wb_lt2 {a b : Nat} (h : a < b) : 2 ^ a < 2 ^ b := Nat.pow_lt_pow_right (by decide) h
theorem wb_mod (n : Nat) : lN n = lN (n % 2 ^ 64) := wb_inj (by rw [wb_tb, wb_tb]; apply BitVec.eq_of_toNat_eq; rw [BitVec.toNat_ofNat, BitVec.toNat_ofNat, Nat.mod_mod])
theorem wb_shr {n k : Nat} (hn : n < 2 ^ 64) (hk : k < 64) : ((lN n).toUInt64 >>> ((nI k).toInt64.toUInt64 &&& Int64.toUInt64 63)).toInt64 = lN (n / 2 ^ k) := by
  rw [wb_cu k hk]
  apply wb_inj
  apply BitVec.eq_of_toNat_eq
  show ((lN n).toUInt64 >>> UInt64.ofNat k).toNat = (BitVec.ofNat 64 _).toNat
  have h1 : (UInt64.ofNat k).toNat = k := by
    show (BitVec.ofNat 64 k).toNat = k
    rw [BitVec.toNat_ofNat, Nat.mod_eq_of_lt (by omega)]
  have h2 : (lN n).toUInt64.toNat = n := wb_tn hn
  rw [UInt64.toNat_shiftRight, h1, h2, Nat.mod_eq_of_lt hk, Nat.shiftRight_eq_div_pow, BitVec.toNat_ofNat, Nat.mod_eq_of_lt (Nat.lt_of_le_of_lt (Nat.div_le_self _ _) hn)]
theorem wb_shl (n : Nat) {k : Nat} (hk : k < 64) : lN n <<< ((nI k).toInt64 &&& 63) = lN (n * 2 ^ k) := by
  rw [wb_c k hk]
  apply wb_inj
  rw [Int64.toBitVec_shiftLeft, wb_tb, wb_tb, wb_tb, wb_sm k hk]
  apply BitVec.eq_of_toNat_eq
  rw [BitVec.shiftLeft_eq', BitVec.toNat_shiftLeft, BitVec.toNat_ofNat, BitVec.toNat_ofNat, BitVec.toNat_ofNat, Nat.mod_eq_of_lt (show k < 2 ^ 64 by omega), Nat.shiftLeft_eq, Nat.mul_mod, Nat.mod_mod, ← Nat.mul_mod]
theorem wb_and {a b : Nat} (ha : a < 2 ^ 64) (hb : b < 2 ^ 64) : lN a &&& lN b = lN (a &&& b) := by
  apply wb_inj
  rw [Int64.toBitVec_and, wb_tb, wb_tb, wb_tb]
  apply BitVec.eq_of_toNat_eq
  rw [BitVec.toNat_and, BitVec.toNat_ofNat, BitVec.toNat_ofNat, BitVec.toNat_ofNat, Nat.mod_eq_of_lt ha, Nat.mod_eq_of_lt hb, Nat.mod_eq_of_lt (Nat.and_lt_two_pow _ hb)]
theorem wb_or {a b : Nat} (ha : a < 2 ^ 64) (hb : b < 2 ^ 64) : lN a ||| lN b = lN (a ||| b) := by
  apply wb_inj
  rw [Int64.toBitVec_or, wb_tb, wb_tb, wb_tb]
  apply BitVec.eq_of_toNat_eq
  rw [BitVec.toNat_or, BitVec.toNat_ofNat, BitVec.toNat_ofNat, BitVec.toNat_ofNat, Nat.mod_eq_of_lt ha, Nat.mod_eq_of_lt hb, Nat.mod_eq_of_lt (Nat.or_lt_two_pow ha hb)]
theorem wb_mask {n k : Nat} (hn : n < 2 ^ 64) (hk : k < 64) : lN n &&& lN (2 ^ k - 1) = lN (n % 2 ^ k) := by
  rw [wb_and hn (by have := wb_lt2 hk; omega), Nat.and_two_pow_sub_one_eq_mod]
theorem wb_a1 {n : Nat} (hn : n < 2 ^ 64) : lN n &&& 1 = lN (n % 2) := wb_mask (k := 1) hn (by decide)
theorem wb_bit {n k : Nat} (hn : n < 2 ^ 64) (hk : k < 64) : ((lN n).toUInt64 >>> ((nI k).toInt64.toUInt64 &&& Int64.toUInt64 63)).toInt64 &&& 1 = lN (n / 2 ^ k % 2) := by
  rw [wb_shr hn hk, wb_a1 (Nat.lt_of_le_of_lt (Nat.div_le_self _ _) hn)]
/-! ===== how many places have a property ===== -/
def fb_ct (p : Nat → Bool) : Nat → Nat
  | 0 => 0
  | n + 1 => fb_ct p n + (if p n then 1 else 0)
theorem fb_ct_succ (p : Nat → Bool) (n : Nat) : fb_ct p (n + 1) = fb_ct p n + (if p n then 1 else 0) := rfl
theorem fb_ct_le (p : Nat → Bool) : ∀ n, fb_ct p n ≤ n
  | 0 => Nat.le_refl _
  | n + 1 => by
    have h := fb_ct_le p n
    rw [fb_ct_succ]
    split <;> omega
theorem fb_ct_step (p : Nat → Bool) (m : Nat) : ∀ n, fb_ct p m ≤ fb_ct p (m + n)
  | 0 => Nat.le_refl _
  | n + 1 => by
    have h := fb_ct_step p m n
    show fb_ct p m ≤ fb_ct p (m + n + 1)
    rw [fb_ct_succ]
    omega
theorem fb_ct_mono (p : Nat → Bool) {m n : Nat} (h : m ≤ n) : fb_ct p m ≤ fb_ct p n := by
  have := fb_ct_step p m (n - m)
  rwa [Nat.add_sub_cancel' h] at this
theorem fb_ct_cong {p q : Nat → Bool} : ∀ {n : Nat}, (∀ k, k < n → p k = q k) → fb_ct p n = fb_ct q n
  | 0, _ => rfl
  | n + 1, h => by
    rw [fb_ct_succ, fb_ct_succ, fb_ct_cong (fun k hk => h k (by omega)), h n (by omega)]
/-- one place changed -/
theorem fb_ct_out (p : Nat → Bool) (b : Bool) {i n : Nat} (h : n ≤ i) : fb_ct (fun k => if k = i then b else p k) n = fb_ct p n :=
  fb_ct_cong fun k hk => if_neg (by omega)
theorem fb_ct_upd (p : Nat → Bool) (b : Bool) {i : Nat} : ∀ {n : Nat}, i < n → fb_ct (fun k => if k = i then b else p k) n + (if p i then 1 else 0) = fb_ct p n + (if b then 1 else 0)
  | 0, h => absurd h (Nat.not_lt_zero i)
  | n + 1, h => by
    rw [fb_ct_succ, fb_ct_succ]
    rcases Nat.lt_or_ge i n with q | q
    · have := fb_ct_upd p b q
      have e : (if n = i then b else p n) = p n := if_neg (by omega)
      rw [e]
      omega
    · have e : i = n := by omega
      subst e
      rw [fb_ct_out p b (Nat.le_refl _)]
      simp only [if_true]
      omega
theorem fb_ct_sub {p q : Nat → Bool} : ∀ {n : Nat}, (∀ k, k < n → p k = true → q k = true) → fb_ct p n ≤ fb_ct q n
  | 0, _ => Nat.le_refl _
  | n + 1, h => by
    have h1 := fb_ct_sub (n := n) (p := p) (q := q) (fun k hk => h k (by omega))
    have h2 := h n (by omega)
    rw [fb_ct_succ, fb_ct_succ]
    cases hp : p n <;> cases hq : q n <;> simp_all <;> omega
theorem fb_ct_or {p q : Nat → Bool} : ∀ {n : Nat}, (∀ k, k < n → ¬ (p k = true ∧ q k = true)) → fb_ct (fun k => p k || q k) n = fb_ct p n + fb_ct q n
  | 0, _ => rfl
  | n + 1, h => by
    have h1 := fb_ct_or (n := n) (p := p) (q := q) (fun k hk => h k (by omega))
    have h2 := h n (by omega)
    rw [fb_ct_succ, fb_ct_succ, fb_ct_succ, h1]
    cases hp : p n <;> cases hq : q n <;> simp_all <;> omega
theorem fb_ct_not (p : Nat → Bool) : ∀ n, fb_ct p n + fb_ct (fun k => !p k) n = n
  | 0 => rfl
  | n + 1 => by
    have h := fb_ct_not p n
    rw [fb_ct_succ, fb_ct_succ]
    cases p n <;> simp <;> omega
theorem fb_ct_split (p : Nat → Bool) (m : Nat) : ∀ n, fb_ct p (m + n) = fb_ct p m + fb_ct (fun k => p (m + k)) n
  | 0 => rfl
  | n + 1 => by
    have h := fb_ct_split p m n
    show fb_ct p (m + n + 1) = _
    rw [fb_ct_succ, fb_ct_succ, h, Nat.add_assoc]
theorem fb_ct_zero {p : Nat → Bool} : ∀ {n : Nat}, fb_ct p n = 0 ↔ ∀ k, k < n → p k = false
  | 0 => ⟨fun _ k hk => absurd hk (Nat.not_lt_zero k), fun _ => rfl⟩
  | n + 1 => by
    have h := fb_ct_zero (p := p) (n := n)
    rw [fb_ct_succ]
    constructor
    · intro e k hk
      have e1 : fb_ct p n = 0 := by omega
      rcases Nat.lt_or_ge k n with q | q
      · exact h.mp e1 k q
      · have ek : k = n := by omega
        subst ek
        cases hp : p k
        · rfl
        · simp [hp] at e
    · intro a
      rw [h.mpr (fun k hk => a k (by omega)), a n (by omega)]
      rfl
theorem fb_ct_pos {p : Nat → Bool} {n : Nat} : 0 < fb_ct p n ↔ ∃ k, k < n ∧ p k = true := by
  constructor
  · intro h
    refine Classical.byContradiction fun hx => ?_
    have := fb_ct_zero.mpr (fun k hk => by
      cases hp : p k
      · rfl
      · exact absurd ⟨k, hk, hp⟩ hx : ∀ k, k < n → p k = false)
    omega
  · rintro ⟨k, hk, hp⟩
    rcases Nat.eq_zero_or_pos (fb_ct p n) with e | e
    · have := fb_ct_zero.mp e k hk
      rw [this] at hp
      cases hp
    · exact e
theorem fb_ct_all {p : Nat → Bool} {n : Nat} : fb_ct p n = n ↔ ∀ k, k < n → p k = true := by
  have h := fb_ct_not p n
  constructor
  · intro e k hk
    have z : fb_ct (fun k => !p k) n = 0 := by omega
    have := fb_ct_zero.mp z k hk
    cases hp : p k
    · simp [hp] at this
    · rfl
  · intro a
    have z : fb_ct (fun k => !p k) n = 0 := fb_ct_zero.mpr (fun k hk => by simp [a k hk])
    omega
/-- the k-th place with the property -/
theorem fb_ct_kth {p : Nat → Bool} {k : Nat} : ∀ {n : Nat}, k < fb_ct p n → ∃ i, i < n ∧ p i = true ∧ fb_ct p i = k
  | 0, h => absurd h (Nat.not_lt_zero k)
  | n + 1, h => by
    rcases Nat.lt_or_ge k (fb_ct p n) with q | q
    · obtain ⟨i, h1, h2⟩ := fb_ct_kth q
      exact ⟨i, by omega, h2⟩
    · rw [fb_ct_succ] at h
      cases hp : p n
      · simp [hp] at h; omega
      · simp [hp] at h
        exact ⟨n, by omega, hp, by omega⟩
theorem fb_ct_kth_one {p : Nat → Bool} {i j : Nat} (hi : p i = true) (hj : p j = true) (e : fb_ct p i = fb_ct p j) : i = j := by
  have key : ∀ a b : Nat, a < b → p a = true → fb_ct p a < fb_ct p b := by
    intro a b hab ha
    have h := fb_ct_mono p (show a + 1 ≤ b from hab)
    rw [fb_ct_succ, ha] at h
    simp at h
    omega
  rcases Nat.lt_trichotomy i j with q | q | q
  · have := key i j q hi; omega
  · exact q
  · have := key j i q hj; omega
/-! ===== sums over a range: one place changed, parts, bounds ===== -/
theorem fb_andL (a b : Nat) : lN a &&& lN b = lN (a &&& b) := by
  apply Int64.toBitVec_inj.1
  show BitVec.ofNat 64 a &&& BitVec.ofNat 64 b = BitVec.ofNat 64 (a &&& b)
  apply BitVec.eq_of_getLsbD_eq
  intro i hi
  simp [hi]
theorem fb_orL (a b : Nat) : lN a ||| lN b = lN (a ||| b) := by
  apply Int64.toBitVec_inj.1
  show BitVec.ofNat 64 a ||| BitVec.ofNat 64 b = BitVec.ofNat 64 (a ||| b)
  apply BitVec.eq_of_getLsbD_eq
  intro i hi
  simp [hi]
/-! ===== bits of a number, counted byte by byte ===== -/
theorem and_split (k a b c d : Nat) (hb : b < 2 ^ k) (hd : d < 2 ^ k) : (2 ^ k * a + b) &&& (2 ^ k * c + d) = 2 ^ k * (a &&& c) + (b &&& d) := by
  apply Nat.eq_of_testBit_eq
  intro j
  rw [Nat.testBit_and, Nat.testBit_two_pow_mul_add a hb, Nat.testBit_two_pow_mul_add c hd, Nat.testBit_two_pow_mul_add _ (Nat.and_lt_two_pow _ hd)]
  by_cases h : j < k
  · simp [h]
  · simp [h]
theorem and_b (M h l m : Nat) (hl : l < 256) (hm : m < 256) : (256 * h + l) &&& (256 * M + m) = 256 * (h &&& M) + (l &&& m) := and_split 8 h l M m hl hm
theorem cb1 (M h l : Nat) (hl : l < 256) : (256 * h + l) - (((256 * h + l) / 2) &&& (256 * M + 85)) = 256 * (h - ((h / 2) &&& M)) + (l - ((l / 2) &&& 85)) := by
  have e1 : (256 * h + l) / 2 = 256 * (h / 2) + (128 * (h % 2) + l / 2) := by omega
  have e2 : (128 * (h % 2) + l / 2) &&& 85 = (l / 2) &&& 85 := by
    have := and_split 7 (h % 2) (l / 2) 0 85 (by omega) (by decide)
    rw [Nat.and_zero, Nat.mul_zero, Nat.zero_add, Nat.zero_add] at this
    exact this
  rw [e1, and_b _ _ _ _ (by omega) (by decide), e2]
  have h1 : (h / 2) &&& M ≤ h / 2 := Nat.and_le_left
  have h2 : (l / 2) &&& 85 ≤ l / 2 := Nat.and_le_left
  omega
theorem cb2 (M h l : Nat) (hl : l < 256) : ((256 * h + l) &&& (256 * M + 51)) + (((256 * h + l) / 4) &&& (256 * M + 51)) = 256 * ((h &&& M) + ((h / 4) &&& M)) + ((l &&& 51) + ((l / 4) &&& 51)) := by
  have e1 : (256 * h + l) / 4 = 256 * (h / 4) + (64 * (h % 4) + l / 4) := by omega
  have e2 : (64 * (h % 4) + l / 4) &&& 51 = (l / 4) &&& 51 := by
    have := and_split 6 (h % 4) (l / 4) 0 51 (by omega) (by decide)
    rw [Nat.and_zero, Nat.mul_zero, Nat.zero_add, Nat.zero_add] at this
    exact this
  rw [e1, and_b M (h / 4) _ _ (by omega) (by decide), and_b M h _ _ hl (by decide), e2]
  omega
theorem cb3 (M h l : Nat) (hl : l ≤ 68) (hh : h % 16 ≤ 4) : ((256 * h + l) + (256 * h + l) / 16) &&& (256 * M + 15) = 256 * ((h + h / 16) &&& M) + ((l + l / 16) &&& 15) := by
  have e1 : (256 * h + l) + (256 * h + l) / 16 = 256 * (h + h / 16) + (16 * (h % 16) + (l + l / 16)) := by omega
  have e2 : (16 * (h % 16) + (l + l / 16)) &&& 15 = (l + l / 16) &&& 15 := by
    rw [show (15 : Nat) = 2 ^ 4 - 1 from rfl, Nat.and_two_pow_sub_one_eq_mod, Nat.and_two_pow_sub_one_eq_mod]
    omega
  rw [e1, and_b _ _ _ _ (by omega) (by decide), e2]
def mkB (b : Nat) : Nat → Nat
  | 0 => 0
  | k + 1 => 256 * mkB b k + b
def cA (k n : Nat) : Nat := n - ((n / 2) &&& mkB 85 k)
def cB (k n : Nat) : Nat := (cA k n &&& mkB 51 k) + ((cA k n / 4) &&& mkB 51 k)
def cC (k n : Nat) : Nat := (cB k n + cB k n / 16) &&& mkB 15 k
def pA (l : Nat) : Nat := l - ((l / 2) &&& 85)
def pB (l : Nat) : Nat := (pA l &&& 51) + ((pA l / 4) &&& 51)
def pC (l : Nat) : Nat := (pB l + pB l / 16) &&& 15
theorem pByte : ∀ l, l < 256 → pA l < 256 ∧ pB l ≤ 68 ∧ pB l % 16 ≤ 4 ∧ pC l = fb_ct l.testBit 8 := by decide +kernel
theorem cA_s (k h l : Nat) (hl : l < 256) : cA (k + 1) (256 * h + l) = 256 * cA k h + pA l := cb1 _ _ _ hl
theorem cB_s (k h l : Nat) (hl : l < 256) : cB (k + 1) (256 * h + l) = 256 * cB k h + pB l := by
  unfold cB
  rw [cA_s k h l hl]
  exact cb2 _ _ _ (pByte l hl).1
theorem cB_16 (k n : Nat) : cB k n % 16 ≤ 4 := by
  cases k with
  | zero => simp [cB, mkB]
  | succ k =>
    have e : n = 256 * (n / 256) + n % 256 := by omega
    have hl : n % 256 < 256 := by omega
    have h2 := (pByte _ hl).2.2.1
    rw [e, cB_s k _ _ hl]
    omega
theorem cC_s (k h l : Nat) (hl : l < 256) : cC (k + 1) (256 * h + l) = 256 * cC k h + pC l := by
  unfold cC
  rw [cB_s k h l hl]
  exact cb3 _ _ _ (pByte l hl).2.1 (cB_16 k h)
theorem ct_byte (h l n : Nat) (hl : l < 256) : fb_ct (256 * h + l).testBit (8 + n) = fb_ct l.testBit 8 + fb_ct h.testBit n := by
  rw [fb_ct_split]
  congr 1
  · exact fb_ct_cong fun k hk => by
      rw [show (256 : Nat) = 2 ^ 8 from rfl, Nat.testBit_two_pow_mul_add h (by omega), if_pos hk]
  · exact fb_ct_cong fun k hk => by
      show (256 * h + l).testBit (8 + k) = h.testBit k
      rw [show (256 : Nat) = 2 ^ 8 from rfl, Nat.testBit_two_pow_mul_add h (by omega), if_neg (by omega), Nat.add_sub_cancel_left]
theorem bytes4 (n : Nat) (hn : n < 2 ^ 32) : ∃ a b c d, a ≤ 8 ∧ b ≤ 8 ∧ c ≤ 8 ∧ d ≤ 8 ∧ cC 4 n = 256 * (256 * (256 * d + c) + b) + a ∧ fb_ct n.testBit 32 = a + (b + (c + d)) := by
  have e : n = 256 * (256 * (256 * (256 * 0 + n / 16777216) + n / 65536 % 256) + n / 256 % 256) + n % 256 := by omega
  have h0 : n % 256 < 256 := by omega
  have h1 : n / 256 % 256 < 256 := by omega
  have h2 : n / 65536 % 256 < 256 := by omega
  have h3 : n / 16777216 < 256 := by omega
  refine ⟨pC (n % 256), pC (n / 256 % 256), pC (n / 65536 % 256), pC (n / 16777216), ?_, ?_, ?_, ?_, ?_, ?_⟩
  · rw [(pByte _ h0).2.2.2]; exact fb_ct_le _ 8
  · rw [(pByte _ h1).2.2.2]; exact fb_ct_le _ 8
  · rw [(pByte _ h2).2.2.2]; exact fb_ct_le _ 8
  · rw [(pByte _ h3).2.2.2]; exact fb_ct_le _ 8
  · conv => lhs; rw [e]
    rw [cC_s _ _ _ h0, cC_s _ _ _ h1, cC_s _ _ _ h2, cC_s _ _ _ h3]
    have : cC 0 0 = 0 := by decide
    omega
  · conv => lhs; rw [e]
    rw [show 32 = 8 + (8 + (8 + (8 + 0))) from rfl, ct_byte _ _ _ h0, ct_byte _ _ _ h1, ct_byte _ _ _ h2, ct_byte _ _ _ h3, (pByte _ h0).2.2.2, (pByte _ h1).2.2.2, (pByte _ h2).2.2.2, (pByte _ h3).2.2.2]
    rfl
theorem iusN {n k : Nat} (hn : n < 2 ^ 32) (hk : k < 32) : ius (nI n) (nI k) = nI (n / 2 ^ k) := by
  have hs : n / 2 ^ k ≤ n := Nat.div_le_self _ _
  have e2 : UInt32.ofNat n >>> ((nI k).toUInt32 &&& Int32.toUInt32 31) = UInt32.ofNat (n / 2 ^ k) := by
    apply UInt32.toNat_inj.1
    have h1 : (UInt32.ofNat n).toNat = n := Nat.mod_eq_of_lt (by omega)
    have h2 : (UInt32.ofNat (n / 2 ^ k)).toNat = n / 2 ^ k := Nat.mod_eq_of_lt (by omega)
    have h3 : ((nI k).toUInt32 &&& Int32.toUInt32 31).toNat % 32 = k := (by decide +kernel : ∀ k, k < 32 → ((nI k).toUInt32 &&& Int32.toUInt32 31).toNat % 32 = k) k hk
    rw [UInt32.toNat_shiftRight, h3, h1, h2, Nat.shiftRight_eq_div_pow]
  show (UInt32.ofNat n >>> _).toInt32 = _
  rw [e2]
  rfl
theorem bt_nI {n : Nat} (i : Nat) (hi : i < 32) : bt (nI n) i = n.testBit i := by
  show (BitVec.ofNat 32 n).getLsbD i = _
  rw [BitVec.getLsbD_ofNat]
  simp [hi]
theorem bc_ct (a : Int32) : bc a = nI (fb_ct (bt a) 32) := by
  obtain ⟨n, hn, rfl⟩ := wb_of32 a
  have e0 : fb_ct (bt (nI n)) 32 = fb_ct n.testBit 32 := fb_ct_cong fun k hk => bt_nI k hk
  obtain ⟨a, b, c, d, ha, hb, hc, hd, e1, e2⟩ := bytes4 n hn
  rw [e0, e2]
  have hA : cA 4 n ≤ n := Nat.sub_le _ _
  have s1 : nI n - ((ius (nI n) 1) &&& 1431655765) = nI (cA 4 n) := by
    rw [show (1 : Int32) = nI 1 from rfl, iusN hn (by decide), show (1431655765 : Int32) = nI (mkB 85 4) from rfl, nx_and, pk_sub (Nat.le_trans Nat.and_le_left (Nat.div_le_self _ _))]
    rfl
  have s2 : (nI (cA 4 n) &&& 858993459) + ((ius (nI (cA 4 n)) 2) &&& 858993459) = nI (cB 4 n) := by
    rw [show (2 : Int32) = nI 2 from rfl, iusN (by omega) (by decide), show (858993459 : Int32) = nI (mkB 51 4) from rfl, nx_and, nx_and, nI_add]
    rfl
  have hB : cB 4 n < 2 ^ 32 := by
    have h1 : cA 4 n &&& mkB 51 4 ≤ mkB 51 4 := Nat.and_le_right
    have h2 : (cA 4 n / 4) &&& mkB 51 4 ≤ mkB 51 4 := Nat.and_le_right
    have h3 : mkB 51 4 = 858993459 := rfl
    unfold cB
    omega
  have s3 : (nI (cB 4 n) + (ius (nI (cB 4 n)) 4)) &&& 252645135 = nI (cC 4 n) := by
    rw [show (4 : Int32) = nI 4 from rfl, iusN hB (by decide), nI_add, show (252645135 : Int32) = nI (mkB 15 4) from rfl, nx_and]
    rfl
  simp only [bc, s1, s2, s3]
  rw [show (8 : Int32) = nI 8 from rfl, show (16 : Int32) = nI 16 from rfl, iusN (by omega) (by decide), nI_add, iusN (by omega) (by decide), nI_add, show (63 : Int32) = nI (2 ^ 6 - 1) from rfl, nx_and, Nat.and_two_pow_sub_one_eq_mod]
  congr 1
  rw [e1]
  have f1 : (256 * (256 * (256 * d + c) + b) + a) / 2 ^ 8 = 256 * (256 * d + c) + b := by omega
  rw [f1]
  have f2 : (256 * (256 * (256 * d + c) + b) + a + (256 * (256 * d + c) + b)) / 2 ^ 16 = 256 * d + (d + c) := by omega
  rw [f2]
  omega
/-- one more bit, one less -/
theorem bit_nI (r : Nat) (hr : r < 32) (i : Nat) (hi : i < 32) : bt ((1 : Int32) <<< (nI r &&& 31)) i = decide (i = r) := by
  rw [b_shl r hr 1 hi]
  have h1 : ∀ j, j < 32 → bt 1 j = decide (j = 0) := by decide +kernel
  rw [h1 _ (by omega)]
  by_cases e : r ≤ i
  · simp only [e, decide_true, Bool.true_and, decide_eq_decide]
    omega
  · simp only [e, decide_false, Bool.false_and, Bool.false_eq, decide_eq_false_iff_not]
    omega
theorem bt_set (a : Int32) (r : Nat) (hr : r < 32) (i : Nat) (hi : i < 32) : bt (a ||| ((1 : Int32) <<< (nI r &&& 31))) i = (if i = r then true else bt a i) := by
  rw [b_or, bit_nI r hr i hi]
  by_cases e : i = r <;> simp [e]
theorem bt_clr (a : Int32) (r : Nat) (hr : r < 32) (i : Nat) (hi : i < 32) : bt (a &&& (((1 : Int32) <<< (nI r &&& 31)) ^^^ (-1))) i = (if i = r then false else bt a i) := by
  rw [b_and, b_xor, bit_nI r hr i hi, b_m1 i hi]
  by_cases e : i = r <;> simp [e]
theorem abit_bt (a : Int32) (r : Nat) (hr : r < 32) : abit a r = if bt a r then 1 else 0 := by
  unfold abit
  apply b_ext
  intro i hi
  have h1 : ∀ j, j < 32 → bt 1 j = decide (j = 0) := by decide +kernel
  rw [b_and, b_sshr r hr a hi, h1 i hi]
  by_cases e : i = 0
  · subst e
    rw [if_pos (by omega)]
    cases bt a r <;> simp [h1, b_0]
  · cases bt a r <;> simp [h1 i hi, b_0, e]
theorem bc_set (a : Int32) (r : Nat) (hr : r < 32) (h0 : bt a r = false) : bc (a ||| ((1 : Int32) <<< (nI r &&& 31))) = bc a + 1 := by
  rw [bc_ct, bc_ct, fb_ct_cong (fun k hk => bt_set a r hr k hk), nI_1]
  have := fb_ct_upd (bt a) true hr
  rw [h0] at this
  congr 1
theorem bc_clr (a : Int32) (r : Nat) (hr : r < 32) (h0 : bt a r = true) : bc (a &&& (((1 : Int32) <<< (nI r &&& 31)) ^^^ (-1))) + 1 = bc a := by
  rw [bc_ct, bc_ct, fb_ct_cong (fun k hk => bt_clr a r hr k hk), nI_1]
  have := fb_ct_upd (bt a) false hr
  rw [h0] at this
  congr 1
