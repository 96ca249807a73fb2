/-! THE REFERENCE'S FACE: image, restore, feed -/
def DI (mo : Nat) (h : PH) (D : DT) : Prop := (∀ j, j < 312 → hI h (mo + 18) j = D.1 j) ∧ hI h mo 35 = nI D.2.1.1 ∧ (∀ i, i < D.2.1.1 → ∀ j, j < 312 → hI h (mo + 19) (312 * i + j) = D.2.1.2 i j) ∧ hI h mo 36 = nI D.2.2.1.1 ∧ (∀ i, i < D.2.2.1.1 → hI h (mo + 20) i = D.2.2.1.2.1 i ∧ hI h (mo + 21) i = D.2.2.1.2.2 i) ∧ ∀ i, i < 3 → hI h (mo + 22) i = D.2.2.2 i
def scrI (mo b j : Nat) : Prop := (mo + 18 ≤ b ∧ b ≤ mo + 22) ∨ (b = mo ∧ (j = 1 ∨ j = 34 ∨ j = 35 ∨ j = 36))
def q8 (w : Int32) (j : Nat) : Nat := w.toBitVec.toNat / 2 ^ (24 - 8 * j) % 256
theorem b_255' : ∀ i, i < 32 → bt 255 i = decide (i < 8) := by decide +kernel
theorem q8_u (w : Int32) (j : Nat) (hj : j < 4) : (ius w (nI (24 - 8 * j))) &&& 255 = nI (q8 w j) := by
  refine Int32.toBitVec_inj.mp (BitVec.eq_of_toNat_eq ?_)
  have e1 : (ius w (nI (24 - 8 * j))).toBitVec = w.toBitVec >>> (24 - 8 * j) := by
    refine BitVec.eq_of_getLsbD_eq fun i hi => ?_
    rw [BitVec.getLsbD_ushiftRight]
    exact b_ushr (24 - 8 * j) (by omega) w i
  rw [Int32.toBitVec_and, e1, BitVec.toNat_and, BitVec.toNat_ushiftRight]
  show w.toBitVec.toNat >>> (24 - 8 * j) &&& 255 = (BitVec.ofNat 32 (q8 w j)).toNat
  rw [BitVec.toNat_ofNat, show (255 : Nat) = 2 ^ 8 - 1 from rfl, Nat.and_two_pow_sub_one_eq_mod, Nat.shiftRight_eq_div_pow]
  unfold q8
  omega
theorem q8_s (w : Int32) (j : Nat) (hj : j < 4) : (w >>> ((nI (24 - 8 * j)) &&& 31)) &&& 255 = nI (q8 w j) := by
  rw [← q8_u w j hj]
  refine b_ext fun i hi => ?_
  rw [b_and, b_and, b_sshr (24 - 8 * j) (by omega) w hi, show bt (ius w (nI (24 - 8 * j))) i = bt w (24 - 8 * j + i) from b_ushr (24 - 8 * j) (by omega) w i, b_255' i hi]
  by_cases z : i < 8
  · rw [if_pos (by omega)]
  · rw [decide_eq_false z, Bool.and_false, Bool.and_false]
theorem q8_lt (w : Int32) (j : Nat) : q8 w j < 256 := Nat.mod_lt _ (by decide)
def fdW (a b c d e : Int32) (k : Nat) : Int32 := if k < 4 then a else if k < 8 then b else if k < 12 then c else if k < 16 then d else e
def fdB (a b c d e : Int32) (k : Nat) : Int32 := nI (q8 (fdW a b c d e k) (k % 4))
def TP (mo : Nat) (h : PH) (tl : Nat) (tp : Nat → Int32) : Prop := hI h mo 11 = nI tl ∧ ∀ i, i < tl → hI h (mo + 10) i = tp i
def fdT (tl : Nat) (tp : Nat → Int32) (a b c d e : Int32) : Nat → Int32 := fun i => if i < tl then tp i else fdB a b c d e (i - tl)
def scrF (mo b j : Nat) : Prop := b = mo + 10 ∨ (b = mo ∧ (j = 1 ∨ j = 11))
theorem k20s : ∀ k, k < 20 → (24 : Int32) - 8 * (nI k - nI k / 4 * 4) = nI (24 - 8 * (k % 4)) := by decide +kernel
section Image
variable {l : Launch} {x : CX} {mo nc nf nr nr' m nn n : Nat} {g : PH} {f F t ct rt ri ti s : Nat → Int32} {D : DT}
theorem r_copyA {a b n ka kb : Nat} (w : MW mo g) (ha : (ka, a, n) ∈ mtab) (hb : (kb, b, n) ∈ mtab) (hab : a ≠ b) (hn : n < 100000) {A B : Nat} (eA : A = mo + a) (eB : B = mo + b) : CV l x mX8_copyTo 0 0 0 [.ref A, .ref B] g (fun h' => SB [a] mo g h' ∧ ∀ j, j < n → hI h' (mo + a) j = hI g (mo + b) j) := by
  subst eA eB
  exact r_copy w ha hb hab hn
theorem p_image (w : MW mo g) (d : DK mo g D) (hn : D.2.1.1 ≤ 40) (h8 : D.2.2.1.1 ≤ 8) : CV l x mX8_image 1 0 0 [.ref mo] g (fun h' => SG (scrI mo) g h' ∧ hI h' mo 34 = 1 ∧ DI mo h' D) := by
  generalize e0 : sI (sI (sI (sI g mo 1 0) mo 34 1) mo 35 (hI g mo 24)) mo 36 (hI g mo 26) = g0
  have s0 : SG (scrI mo) g g0 := by
    rw [← e0]
    exact (((SG.sI (Or.inr ⟨rfl, Or.inl rfl⟩)).trans (SG.sI (Or.inr ⟨rfl, Or.inr (Or.inl rfl)⟩))).trans (SG.sI (Or.inr ⟨rfl, Or.inr (Or.inr (Or.inl rfl))⟩))).trans (SG.sI (Or.inr ⟨rfl, Or.inr (Or.inr (Or.inr rfl))⟩))
  have f34 : hI g0 mo 34 = 1 := by rw [← e0, gIk _ _ _ (by decide), gIk _ _ _ (by decide)]; exact gI _ _ _ _
  have f35 : hI g0 mo 35 = nI D.2.1.1 := by rw [← e0, gIk _ _ _ (by decide), gI]; exact d.2.1.1
  have f36 : hI g0 mo 36 = nI D.2.2.1.1 := by rw [← e0, gI]; exact d.2.2.1.1
  have cp : ∀ (a : Nat) {h h' : PH}, 18 ≤ a → a ≤ 22 → SB [a] mo h h' → SG (scrI mo) h h' := fun a h h' h1 h2 z => ⟨z.1, z.2.1, z.2.2.1, fun b j hb => z.2.2.2 b (fun s hs e => hb (by
    rw [List.mem_singleton] at hs
    subst hs
    exact Or.inl ⟨by omega, by omega⟩)) j⟩
  have w0 := s0.mw w
  refine Cm.of (by decide) (Nat.le_of_ble_eq_true rfl) (vX8_image_0 ⟨w.1, mo + 18, (w.row 37 18 312 (by decide)).1, mo + 2, (w.row 2 2 312 (by decide)).1, ?_⟩)
  rw [e0]
  refine ⟨_, r_copy (a := 18) (b := 2) (n := 312) (ka := 37) (kb := 2) w0 (by decide) (by decide) (by decide) (by decide), ?_⟩
  rintro h8' ⟨s8, e8⟩
  have w8 := s8.mw w0
  refine ⟨w8.1, mo + 19, (w8.row 38 19 12480 (by decide)).1, mo + 13, (w8.row 25 13 12480 (by decide)).1, _, r_copy (a := 19) (b := 13) (n := 12480) (ka := 38) (kb := 25) w8 (by decide) (by decide) (by decide) (by decide), ?_⟩
  rintro h16 ⟨s16, e16⟩
  have w16 := s16.mw w8
  refine ⟨w16.1, mo + 20, (w16.row 39 20 8 (by decide)).1, mo + 14, (w16.row 27 14 8 (by decide)).1, _, r_copy (a := 20) (b := 14) (n := 8) (ka := 39) (kb := 27) w16 (by decide) (by decide) (by decide) (by decide), ?_⟩
  rintro h24 ⟨s24, e24⟩
  have w24 := s24.mw w16
  refine ⟨w24.1, mo + 21, (w24.row 40 21 8 (by decide)).1, mo + 15, (w24.row 28 15 8 (by decide)).1, _, r_copy (a := 21) (b := 15) (n := 8) (ka := 40) (kb := 28) w24 (by decide) (by decide) (by decide) (by decide), ?_⟩
  rintro h32 ⟨s32', e32⟩
  have w32 := s32'.mw w24
  refine ⟨w32.1, mo + 22, (w32.row 41 22 3 (by decide)).1, mo + 3, (w32.row 3 3 3 (by decide)).1, _, r_copy (a := 22) (b := 3) (n := 3) (ka := 41) (kb := 3) w32 (by decide) (by decide) (by decide) (by decide), ?_⟩
  rintro h40 ⟨s40, e40⟩
  have sg := ((((s0.trans (cp 18 (by decide) (by decide) s8)).trans (cp 19 (by decide) (by decide) s16)).trans (cp 20 (by decide) (by decide) s24)).trans (cp 21 (by decide) (by decide) s32')).trans (cp 22 (by decide) (by decide) s40)
  have old : ∀ (a j : Nat), a < 18 → 0 < a → hI g0 (mo + a) j = hI g (mo + a) j := fun a j h1 h2 => s0.2.2.2 _ _ (by unfold scrI; omega)
  refine ⟨rfl, sg, ?_, fun j hj => ?_, ?_, fun i hi j hj => ?_, ?_, fun i hi => ⟨?_, ?_⟩, fun i hi => ?_⟩
  · rw [s40.fldE (by decide), s32'.fldE (by decide), s24.fldE (by decide), s16.fldE (by decide), s8.fldE (by decide)]; exact f34
  · rw [s40.rowE (by decide), s32'.rowE (by decide), s24.rowE (by decide), s16.rowE (by decide), e8 j hj, old 2 j (by decide) (by decide)]; exact d.1 j hj
  · rw [s40.fldE (by decide), s32'.fldE (by decide), s24.fldE (by decide), s16.fldE (by decide), s8.fldE (by decide)]; exact f35
  · rw [s40.rowE (by decide), s32'.rowE (by decide), s24.rowE (by decide), e16 _ (by omega), s8.rowE (by decide), old 13 _ (by decide) (by decide)]; exact d.2.1.2 i hi j hj
  · rw [s40.fldE (by decide), s32'.fldE (by decide), s24.fldE (by decide), s16.fldE (by decide), s8.fldE (by decide)]; exact f36
  · rw [s40.rowE (by decide), s32'.rowE (by decide), e24 _ (by omega), s16.rowE (by decide), s8.rowE (by decide), old 14 _ (by decide) (by decide)]; exact (d.2.2.1.2 i hi).1
  · rw [s40.rowE (by decide), e32 _ (by omega), s24.rowE (by decide), s16.rowE (by decide), s8.rowE (by decide), old 15 _ (by decide) (by decide)]; exact (d.2.2.1.2 i hi).2
  · rw [e40 _ hi, s32'.rowE (by decide), s24.rowE (by decide), s16.rowE (by decide), s8.rowE (by decide), old 3 _ (by decide) (by decide)]; exact d.2.2.2 i hi
theorem p_restore1 (w : MW mo g) (d : DI mo g D) (h1 : hI g mo 34 = 1) (hn : D.2.1.1 ≤ 40) (h8 : D.2.2.1.1 ≤ 8) : CI l x mX8_restore 1 0 0 [.ref mo] g (fun v h' => v = 1 ∧ SG (scrA mo) g h' ∧ DK mo h' D) := by
  generalize e0 : sI (sI (sI g mo 1 0) mo 24 (hI g mo 35)) mo 26 (hI g mo 36) = g0
  have s0 : SG (scrA mo) g g0 := by
    rw [← e0]
    exact (sA1.trans (SG.sI (Or.inr (Or.inr (Or.inr ⟨rfl, Or.inr (Or.inl rfl)⟩))))).trans (SG.sI (Or.inr (Or.inr (Or.inr ⟨rfl, Or.inr (Or.inr (Or.inl rfl))⟩))))
  have f24 : hI g0 mo 24 = nI D.2.1.1 := by rw [← e0, gIk _ _ _ (by decide), gI]; exact d.2.1
  have f26 : hI g0 mo 26 = nI D.2.2.1.1 := by rw [← e0, gI]; exact d.2.2.2.1
  have cp : ∀ (a : Nat) {h h' : PH}, a = 2 ∨ a = 3 ∨ (11 ≤ a ∧ a ≤ 17) → SB [a] mo h h' → SG (scrA mo) h h' := fun a h h' h1 z => ⟨z.1, z.2.1, z.2.2.1, fun b j hb => z.2.2.2 b (fun s hs e => hb (by
    rw [List.mem_singleton] at hs
    subst hs
    unfold scrA
    omega)) j⟩
  have w0 := s0.mw w
  refine Cm.of (by decide) (Nat.le_of_ble_eq_true rfl) (vX8_restore_0 ⟨w.1, fun _ => ⟨mo + 2, (w.row 2 2 312 (by decide)).1, mo + 18, (w.row 37 18 312 (by decide)).1, ?_⟩, fun e => absurd (h1.symm.trans e) (by decide)⟩)
  rw [e0]
  refine ⟨_, r_copy (a := 2) (b := 18) (n := 312) (ka := 2) (kb := 37) w0 (by decide) (by decide) (by decide) (by decide), ?_⟩
  rintro h8' ⟨s8, e8⟩
  have w8 := s8.mw w0
  refine ⟨w8.1, mo + 13, (w8.row 25 13 12480 (by decide)).1, mo + 19, (w8.row 38 19 12480 (by decide)).1, _, r_copy (a := 13) (b := 19) (n := 12480) (ka := 25) (kb := 38) w8 (by decide) (by decide) (by decide) (by decide), ?_⟩
  rintro h16 ⟨s16, e16⟩
  have w16 := s16.mw w8
  refine ⟨w16.1, mo + 14, (w16.row 27 14 8 (by decide)).1, mo + 20, (w16.row 39 20 8 (by decide)).1, _, r_copy (a := 14) (b := 20) (n := 8) (ka := 27) (kb := 39) w16 (by decide) (by decide) (by decide) (by decide), ?_⟩
  rintro h24 ⟨s24, e24⟩
  have w24 := s24.mw w16
  refine ⟨w24.1, mo + 15, (w24.row 28 15 8 (by decide)).1, mo + 21, (w24.row 40 21 8 (by decide)).1, _, r_copy (a := 15) (b := 21) (n := 8) (ka := 28) (kb := 40) w24 (by decide) (by decide) (by decide) (by decide), ?_⟩
  rintro h32 ⟨s32', e32⟩
  have w32 := s32'.mw w24
  refine ⟨w32.1, mo + 3, (w32.row 3 3 3 (by decide)).1, mo + 22, (w32.row 41 22 3 (by decide)).1, _, r_copy (a := 3) (b := 22) (n := 3) (ka := 3) (kb := 41) w32 (by decide) (by decide) (by decide) (by decide), ?_⟩
  rintro h40 ⟨s40, e40⟩
  have sg := ((((s0.trans (cp 2 (Or.inl rfl) s8)).trans (cp 13 (Or.inr (Or.inr ⟨by decide, by decide⟩)) s16)).trans (cp 14 (Or.inr (Or.inr ⟨by decide, by decide⟩)) s24)).trans (cp 15 (Or.inr (Or.inr ⟨by decide, by decide⟩)) s32')).trans (cp 3 (Or.inr (Or.inl rfl)) s40)
  have old : ∀ (a j : Nat), 18 ≤ a → hI g0 (mo + a) j = hI g (mo + a) j := fun a j h1 => s0.2.2.2 _ _ (by unfold scrA; omega)
  refine ⟨by decide, _, rfl, rfl, sg, fun j hj => ?_, ⟨?_, fun i hi j hj => ?_⟩, ⟨?_, fun i hi => ⟨?_, ?_⟩⟩, fun i hi => ?_⟩
  · rw [s40.rowE (by decide), s32'.rowE (by decide), s24.rowE (by decide), s16.rowE (by decide), e8 j hj, old 18 j (by decide)]; exact d.1 j hj
  · rw [s40.fldE (by decide), s32'.fldE (by decide), s24.fldE (by decide), s16.fldE (by decide), s8.fldE (by decide)]; exact f24
  · rw [s40.rowE (by decide), s32'.rowE (by decide), s24.rowE (by decide), e16 _ (by omega), s8.rowE (by decide), old 19 _ (by decide)]; exact d.2.2.1 i hi j hj
  · rw [s40.fldE (by decide), s32'.fldE (by decide), s24.fldE (by decide), s16.fldE (by decide), s8.fldE (by decide)]; exact f26
  · rw [s40.rowE (by decide), s32'.rowE (by decide), e24 _ (by omega), s16.rowE (by decide), s8.rowE (by decide), old 20 _ (by decide)]; exact (d.2.2.2.2.1 i hi).1
  · rw [s40.rowE (by decide), e32 _ (by omega), s24.rowE (by decide), s16.rowE (by decide), s8.rowE (by decide), old 21 _ (by decide)]; exact (d.2.2.2.2.1 i hi).2
  · rw [e40 _ hi, s32'.rowE (by decide), s24.rowE (by decide), s16.rowE (by decide), s8.rowE (by decide), old 22 _ (by decide)]; exact d.2.2.2.2.2 i hi
theorem p_restore0 (w : MW mo g) (h0 : hI g mo 34 = 0) : CI l x mX8_restore 1 0 0 [.ref mo] g (fun v h' => v = 0 ∧ h' = sI g mo 1 0) :=
  Cm.of (by decide) (Nat.le_of_ble_eq_true rfl) (vX8_restore_0 ⟨w.1, fun e => absurd h0 e, fun _ => ⟨by decide, _, rfl, rfl, rfl⟩⟩)
theorem fdW_k {a b c d e : Int32} {k : Nat} (hk : k < 20) : (if 4 ≤ nI k then (if 8 ≤ nI k then (if 12 ≤ nI k then (if 16 ≤ nI k then e else d : Int32) else c : Int32) else b : Int32) else a : Int32) = fdW a b c d e k := by
  have L : ∀ n : Nat, n < 100 → (nI n ≤ nI k ↔ n ≤ k) := fun n hn => nI_leI (by omega) (by omega)
  show (if nI 4 ≤ nI k then (if nI 8 ≤ nI k then (if nI 12 ≤ nI k then (if nI 16 ≤ nI k then e else d) else c) else b) else a) = _
  unfold fdW
  by_cases h4 : k < 4
  · rw [if_pos h4, if_neg (fun z => absurd ((L 4 (by decide)).mp z) (by omega))]
  · rw [if_neg h4, if_pos ((L 4 (by decide)).mpr (by omega))]
    by_cases h8 : k < 8
    · rw [if_pos h8, if_neg (fun z => absurd ((L 8 (by decide)).mp z) (by omega))]
    · rw [if_neg h8, if_pos ((L 8 (by decide)).mpr (by omega))]
      by_cases h12 : k < 12
      · rw [if_pos h12, if_neg (fun z => absurd ((L 12 (by decide)).mp z) (by omega))]
      · rw [if_neg h12, if_pos ((L 12 (by decide)).mpr (by omega))]
        by_cases h16 : k < 16
        · rw [if_pos h16, if_neg (fun z => absurd ((L 16 (by decide)).mp z) (by omega))]
        · rw [if_neg h16, if_pos ((L 16 (by decide)).mpr (by omega))]
theorem p_feed {a b c d e : Int32} {tl : Nat} {tp : Nat → Int32} (w : MW mo g) (q : TP mo g tl tp) (ht : tl ≤ 900) : CI l x mX8_feed 0 0 0 [.ref mo, .int a, .int b, .int c, .int d, .int e] g (fun v h' => SG (scrF mo) g h' ∧ ((tl + 20 ≤ 900 ∧ v = nI (tl + 20) ∧ TP mo h' (tl + 20) (fdT tl tp a b c d e)) ∨ (¬ tl + 20 ≤ 900 ∧ v = -1 ∧ TP mo h' tl tp))) := by
  refine Cm.of (by decide) (Nat.le_of_ble_eq_true rfl) (vX8_feed_0 ⟨w.1, ?_⟩)
  rw [q.1, show nI tl + 20 = nI (tl + 20) from nI_add tl 20]
  have s0 : SG (scrF mo) g (sI g mo 1 0) := SG.sI (Or.inr ⟨rfl, Or.inl rfl⟩)
  refine ⟨fun z => ?_, fun z => ⟨_, rfl, s0, Or.inr ⟨fun y => z (nI_le (b := 900) y (by decide)), rfl, (gIk _ _ _ (by decide)).trans q.1, fun i hi => (gIa _ _ _ _ (by omega)).trans (q.2 i hi)⟩⟩⟩
  have h9 : tl + 20 ≤ 900 := Nat.le_of_not_lt fun y => absurd z (nI_ge (a := 900) y (by omega))
  have loop : ∀ (i k : Nat) (h : PH), k + i = 20 → SG (scrF mo) g h → TP mo h (tl + k) (fdT tl tp a b c d e) → Gm l x mX8_feed 0 23 [(0, .ref mo), (1, .int a), (2, .int b), (3, .int c), (4, .int d), (5, .int e), (6, .int (nI k))] [] h 0 0 (hN g) (fun v h' => ∃ r, v = some (.int r) ∧ SG (scrF mo) g h' ∧ ((tl + 20 ≤ 900 ∧ r = nI (tl + 20) ∧ TP mo h' (tl + 20) (fdT tl tp a b c d e)) ∨ (¬ tl + 20 ≤ 900 ∧ r = -1 ∧ TP mo h' tl tp))) (fun _ _ => False) := by
    intro i
    induction i with
    | zero =>
      intro k h hk sh th
      obtain rfl : k = 20 := by omega
      exact vX8_feed_23 ⟨fun _ => ⟨(sh.mw w).1, _, rfl, sh, Or.inl ⟨h9, th.1, th⟩⟩, fun y => absurd (by decide) y⟩
    | succ i ih =>
      intro k h hk sh th
      have wh := sh.mw w
      have w10 := wh.row 10 10 900 (by decide)
      refine vX8_feed_23 ⟨fun y => absurd y (nI_ge (b := 20) (by omega) (by decide)), fun _ => ?_⟩
      rw [fdW_k (by omega), k20s k (by omega)]
      rintro y7 rfl
      rw [q8_s _ _ (by omega), th.1]
      refine ⟨wh.1, mo + 10, w10.1, w10.2.1, by rw [w10.2.2]; exact vp_in_nI (by omega) (by decide), ?_⟩
      rw [nI_clamp (by omega), gIa _ _ _ _ (by omega), th.1, nI_1, nI_1]
      refine ih (k + 1) _ (by omega) ((sh.trans (SG.sI (Or.inl rfl))).trans (SG.sI (Or.inr ⟨rfl, Or.inr rfl⟩))) ⟨gI _ _ _ _, fun j hj => ?_⟩
      rw [gIa _ _ _ _ (by omega)]
      by_cases y : j = tl + k
      · rw [y, gI]
        unfold fdT fdB
        rw [if_neg (by omega), show tl + k - tl = k by omega]
      · rw [gIk _ _ _ y]
        exact th.2 j (by omega)
  exact loop 20 0 _ rfl s0 ⟨(gIk _ _ _ (by decide)).trans q.1, fun j hj => by
    rw [gIa _ _ _ _ (by omega), q.2 j (by omega)]
    unfold fdT
    rw [if_pos (by omega)]⟩
end Image
