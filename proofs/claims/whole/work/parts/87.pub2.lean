/-! THE REFERENCE'S FACE: calls that only look -/
theorem of_toInt {v : Int32} {i : Nat} (h : v.toInt = (i : Int)) (hi : i < 2 ^ 31) : v = nI i := Int32.toInt_inj.mp (h.trans (nI_toInt hi).symm)
theorem inR_toInt {v : Int32} {n : Nat} {K : Int} (hK : K + 1 = (n : Int)) (hn : n < 2 ^ 31) (h : v.toInt < 0 ∨ K < v.toInt) : ¬ inR v n := by
  rintro ⟨c, hc, rfl⟩
  rw [nI_toInt (by omega)] at h
  omega
theorem s12_iff {s : Int32} : (¬ (if s < 1 then 0 else (if 2 < s then 0 else 1 : Int32) : Int32) = 0) ↔ (s = 1 ∨ s = 2) := by
  constructor
  · intro h
    by_cases h1 : s < 1
    · rw [if_pos h1] at h; exact absurd rfl h
    · rw [if_neg h1] at h
      by_cases h2 : 2 < s
      · rw [if_pos h2] at h; exact absurd rfl h
      · rw [Int32.lt_iff_toInt_lt] at h1 h2
        rw [show (1 : Int32).toInt = 1 from rfl] at h1
        rw [show (2 : Int32).toInt = 2 from rfl] at h2
        have h3 : s.toInt = ((1 : Nat) : Int) ∨ s.toInt = ((2 : Nat) : Int) := by omega
        exact h3.imp (fun z => of_toInt z (by decide)) (fun z => of_toInt z (by decide))
  · rintro (rfl | rfl) <;> decide
def carV (f ct : Nat → Int32) (nr nf c k : Nat) : Int32 := if k = 0 then ct (3 * c + 2) else if k = 1 then f (16 + 8 * c + 7) else if k = 2 then f (16 + 8 * c + 6) else if k < 8 then f (16 + 8 * c + (k - 3)) else if k = 8 then stopsC f nr nf c else f (16 + 8 * c + 5)
noncomputable def aCar (f ct : Nat → Int32) (nc nf nr : Nat) (c k : Int32) : Int32 ⊕ Nat := ite' (inR c nc ∧ inR k 10) (.inl (carV f ct nr nf c.toNatClampNeg k.toNatClampNeg)) (.inr 1)
abbrev wy (up : Int32) : Int32 := if up = 0 then (-1) else 1
noncomputable def aGiven (f : Nat → Int32) (nf nr : Nat) (fl u s : Int32) : Int32 ⊕ Nat := ite' (inR fl nf ∧ (s = 1 ∨ s = 2)) (.inl (if icA f fl (wy u) s nr = 0 then -2 else f (kix fl.toNatClampNeg (wy u) s.toNatClampNeg) - 1)) (.inr 1)
noncomputable def aCost (f t ct : Nat → Int32) (nc nf nr : Nat) (c fl u s : Int32) : Int32 ⊕ Nat := ite' (inR c nc ∧ inR fl nf ∧ (s = 1 ∨ s = 2)) (ite' (f (16 + 8 * c.toNatClampNeg + 4) = 0 ∨ takesC ct c.toNatClampNeg s = 0) (.inr 2) (.inl (costC t ct nr nf (mm f) c.toNatClampNeg fl.toNatClampNeg s.toNatClampNeg (wy u) f))) (.inr 1)
def ahV (F : Nat → Int32) (nc nr k : Nat) : Int32 := if k = 0 then mnyA F 3 nr else if k = 1 then F 5 else if k = 2 then wtdA F nr else stpA F nc
noncomputable def aAhead (f t ct : Nat → Int32) (nc nf nr : Nat) (n k : Int32) : Int32 ⊕ Nat := ite' (inR k 4) (ite' (inR n 121) (.inl (ahV (ticksC t ct nr nf nc f n.toNatClampNeg) nc nr k.toNatClampNeg)) (.inr 2)) (.inr 1)
noncomputable def aWhen (f t ct : Nat → Int32) (nc nf nr : Nat) (r : Int32) : Int32 ⊕ Nat := ite' (inR r nr) (.inl (ticksC t ct nr nf nc f 200 (48 + 9 * r.toNatClampNeg + 7))) (.inr 1)
noncomputable def aMean (t ct rt : Nat → Int32) (nc nf nr : Nat) (p y : Int32) : Int32 ⊕ Nat := ite' (inR p 3 ∧ inR y 12) (.inl (if nr = 0 then 0 else (FP.fdiv (FP.i2f (wtdA (run t ct nc nf nr (anF t ct rt nc nr p y)) nr)) (FP.i2f (nI nr))).toInt32)) (.inr 1)
def anV (F : Nat → Int32) (nr k : Nat) : Int32 := if k = 0 then mnyA F 3 nr else if k = 1 then latA F nr else F 5
noncomputable def aAnew (t ct rt : Nat → Int32) (nc nf nr : Nat) (p y k : Int32) : Int32 ⊕ Nat := ite' (inR k 3) (ite' (inR p 3 ∧ inR y 12) (.inl (anV (run t ct nc nf nr (anF t ct rt nc nr p y)) nr k.toNatClampNeg)) (.inr 2)) (.inr 1)
theorem fdiv_ok {a b : UInt32} (ha : a.toNat < 2139095040) (h0 : 0 < b.toNat) (hb : b.toNat < 2139095040) : Fok (FP.fdiv a b) := by
  obtain ⟨c, q, a1, a2, a3⟩ := fp_fin ha
  obtain ⟨d, r, b1, b2, b3⟩ := fp_fin hb
  have hd : d ≠ 0 := by
    rintro rfl
    have h1 := Jvm.FP.Core.unitsOf_lt (f := Jvm.FP.Core.b32) (m := 0) (k := b.toNat) h0
    rw [← b3, Jvm.FP.Core.unitsOf_zero] at h1
    simp [Jvm.FP.Core.zmag, Jvm.FP.Core.inUnits] at h1
  refine fp_of ?_
  show Jvm.FP.Core.encode Jvm.FP.Core.b32 (Jvm.FP.Core.quotient Jvm.FP.Core.b32 (Jvm.FP.Core.decode Jvm.FP.Core.b32 a.toNat) (Jvm.FP.Core.decode Jvm.FP.Core.b32 b.toNat)) ≤ 2139095040
  rw [a1, b1]
  show Jvm.FP.Core.encode Jvm.FP.Core.b32 (if d = 0 then _ else Jvm.FP.Core.roundRatio Jvm.FP.Core.b32 (false != false) c d (q - r)) ≤ 2139095040
  rw [if_neg hd]
  exact fp_ratio
theorem i2f_n {w : Nat} (hw : w < 2 ^ 31) : (FP.i2f (nI w)).toNat < 2139095040 ∧ (0 < w → 0 < (FP.i2f (nI w)).toNat) := by
  have h1 := Jvm.FP.Core.i2f_mag (nI w)
  show (Jvm.FP.Core.i2f (nI w)).toNat < 2139095040 ∧ (0 < w → 0 < (Jvm.FP.Core.i2f (nI w)).toNat)
  have h2 : (Jvm.FP.Core.i2f (nI w)).toNat ≤ 2139095040 := by
    rw [Jvm.FP.Core.toNat_i2f (nI w), nI_toInt hw]
    show Jvm.FP.Core.encode Jvm.FP.Core.b32 (Jvm.FP.Core.round Jvm.FP.Core.b32 (.fin (decide ((w : Int) < 0)) (w : Int).natAbs 0)) ≤ _
    rw [decide_eq_false (by omega)]
    exact fp_ratio
  refine ⟨by omega, fun h0 => ?_⟩
  have h3 := Jvm.FP.Core.i2f_big (v := nI w) (by rw [nI_toInt hw]; omega)
  omega
section Pub2
variable {l : Launch} {x : CX} {mo nc nf nr nr' m : Nat} {g : PH} {f F t ct rt : Nat → Int32}
theorem p_car {c k : Int32} (w : RW mo t ct g) (q : NR mo g f) (hT : TK t nc nf) (W : Row ct nc nf nr f) : CI l x mX8_car 3 0 0 [.ref mo, .int c, .int k] g (fun v h' => PQ mo g f (aCar f ct nc nf nr c k) v h') := by
  obtain ⟨⟨m, I⟩, G, _⟩ := W
  have hC := I.hc
  have w1 : RW mo t ct (sI g mo 1 0) := ⟨w.1, fun k => (gIa _ _ _ _ (by omega)).trans (w.2.1 k), fun k => (gIa _ _ _ _ (by omega)).trans (w.2.2 k)⟩
  refine Cm.of (by decide) (Nat.le_of_ble_eq_true rfl) (vX8_car_0 ⟨w.1.1, _, c_isCar w1 hT.2 hC, ?_⟩)
  rintro r5 _ ⟨i1, rfl⟩
  refine ⟨fun e => ?_, fun e => PQ.mkFail rfl w1.1 (SG.refl _ _) q.s1 (ite'_f fun z => i1.mpr z.1 e)⟩
  obtain ⟨C, hc, rfl⟩ := i1.mp e
  have ok : ∀ (K : Nat) (h' : PH) (v : Int32), K < 10 → k = nI K → SB [2] mo (sI g mo 1 0) h' → NR mo h' f → v = carV f ct nr nf C K → ∃ r, some (Value.int v) = some (.int r) ∧ PQ mo g f (aCar f ct nc nf nr (nI C) k) r h' := by
    rintro K h' v hK rfl s n ev
    refine ⟨_, rfl, PQ.mkOk (s.sg (by decide)) n (ite'_t ⟨⟨C, hc, rfl⟩, K, hK, rfl⟩) (by rw [nI_clamp (by omega), nI_clamp (by omega)]; exact ev) ?_⟩
    rw [s.fldE (by decide)]
    exact gI _ _ _ _
  have rd : ∀ (K j : Nat) (J : Int32), K < 10 → j < 8 → J = nI j → k = nI K → f (16 + 8 * C + j) = carV f ct nr nf C K → (hK (sI g mo 1 0) mo).1 = 8 ∧ ∃ q13 : Int32 → PH → Prop, CI l x mX8_carOf 0 0 0 [.ref mo, .int (nI C), .int J] (sI g mo 1 0) q13 ∧ ∀ (r17 : Int32) (h16 : PH), q13 r17 h16 → ∃ r, some (Value.int r17) = some (.int r) ∧ PQ mo g f (aCar f ct nc nf nr (nI C) k) r h16 := by
    rintro K j _ hK hj rfl ek ev
    refine ⟨w1.1.1, _, r_same w1.1 q.s1 (c_carOf w1.1 (by omega) hj), ?_⟩
    rintro _ h' ⟨rfl, s, n⟩
    exact ok K h' _ hK ek s n ev
  have w6 := w1.1.row 6 6 12 (by decide)
  have e6 : (3 : Int32) * nI C + 2 = nI (3 * C + 2) := by
    show nI 3 * nI C + nI 2 = _
    rw [nI_mul, nI_add]
  refine ⟨fun e => ⟨w1.1.1, mo + 6, w6.1, w6.2.1, ?_, ?_⟩, fun e => rd 1 7 _ (by decide) (by decide) rfl (of_toInt (i := 1) e (by decide)) rfl, fun e => rd 2 6 _ (by decide) (by decide) rfl (of_toInt (i := 2) e (by decide)) rfl, fun e => ?_, fun e => ?_, fun e => ?_, fun e => ?_, fun e => ?_, fun e => ⟨w1.1.1, _, r_same w1.1 q.s1 (c_stops w1.1 (by omega) I.h6 I.hr ((w1.2.1 0).trans hT.1.1) (by have := I.hf; omega) I.hF), ?_⟩, fun e => rd 9 5 _ (by decide) (by decide) rfl (of_toInt (i := 9) e (by decide)) rfl, fun e => PQ.mkFail rfl w1.1 (SG.refl _ _) q.s1 (ite'_f fun z => inR_toInt (K := 9) rfl (by decide) e z.2)⟩
  · rw [w6.2.2, e6]
    exact vp_in_nI (by omega) (by decide)
  · rw [e6, nI_clamp (by omega)]
    refine ok 0 _ _ (by decide) (of_toInt (i := 0) e (by decide)) (SB.refl _ _ _) q.s1 ?_
    exact w1.2.2 _
  · have ek := of_toInt (i := 3) e (by decide)
    exact rd 3 0 _ (by decide) (by decide) (by rw [ek]; decide) ek rfl
  · have ek := of_toInt (i := 4) e (by decide)
    exact rd 4 1 _ (by decide) (by decide) (by rw [ek]; decide) ek rfl
  · have ek := of_toInt (i := 5) e (by decide)
    exact rd 5 2 _ (by decide) (by decide) (by rw [ek]; decide) ek rfl
  · have ek := of_toInt (i := 6) e (by decide)
    exact rd 6 3 _ (by decide) (by decide) (by rw [ek]; decide) ek rfl
  · have ek := of_toInt (i := 7) e (by decide)
    exact rd 7 4 _ (by decide) (by decide) (by rw [ek]; decide) ek rfl
  · rintro _ h' ⟨rfl, s, n⟩
    exact ok 8 h' _ (by decide) (of_toInt (i := 8) e (by decide)) s n rfl
theorem r_callAt {fl s : Nat} {y : Int32} (hs : 1 ≤ s) : CI l x mX8_callAt 0 0 0 [.int (nI fl), .int y, .int (nI s)] g (fun r h' => r = nI (kix fl y s) ∧ h' = g) := c_callAt hs
theorem s12n {s : Int32} (h : s = 1 ∨ s = 2) : ∃ n : Nat, s = nI n ∧ 1 ≤ n ∧ n ≤ 2 := by
  rcases h with rfl | rfl
  · exact ⟨1, rfl, by decide, by decide⟩
  · exact ⟨2, rfl, by decide, by decide⟩
theorem p_given {fl u s : Int32} (w : RW mo t ct g) (q : NR mo g f) (hT : TK t nc nf) (W : Row ct nc nf nr f) : CI l x mX8_given 3 0 0 [.ref mo, .int fl, .int u, .int s] g (fun v h' => PQ mo g f (aGiven f nf nr fl u s) v h') := by
  obtain ⟨⟨m, I⟩, G, _⟩ := W
  have hF := I.hF
  have w1 : RW mo t ct (sI g mo 1 0) := ⟨w.1, fun k => (gIa _ _ _ _ (by omega)).trans (w.2.1 k), fun k => (gIa _ _ _ _ (by omega)).trans (w.2.2 k)⟩
  refine Cm.of (by decide) (Nat.le_of_ble_eq_true rfl) (vX8_given_0 ⟨w.1.1, _, c_isFloor w1 hT.1.1 hF, ?_⟩)
  rintro r5 _ ⟨i1, rfl⟩
  refine ⟨fun e => PQ.mkFail rfl w1.1 (SG.refl _ _) q.s1 (ite'_f fun z => i1.mpr z.1 e), fun e => ⟨_, c_isIn, ?_⟩⟩
  rintro _ _ ⟨rfl, rfl⟩
  refine ⟨fun e2 => ?_, fun e2 => PQ.mkFail rfl w1.1 (SG.refl _ _) q.s1 (ite'_f fun z => s12_iff.mpr z.2 e2)⟩
  obtain ⟨C, hc, rfl⟩ := i1.mp e
  have hs := s12_iff.mp e2
  obtain ⟨S, rfl, h1, h2⟩ := s12n hs
  refine ⟨w1.1.1, _, r_same w1.1 q.s1 (c_isCall w1.1 I.h6 I.hr), ?_⟩
  rintro _ h' ⟨rfl, s', n'⟩
  have w' := w1.sb s' (by decide) (by decide)
  have w2 := w'.1.row 2 2 312 (by decide)
  have e1 : hI h' mo 1 = 0 := by
    rw [s'.fldE (by decide)]
    exact gI _ _ _ _
  have hk : kix C (if u = 0 then (-1) else 1 : Int32) S < 312 := kix_lt (by omega : C < 12) h1 h2
  refine ⟨fun e3 => ⟨_, rfl, PQ.mkOk (s'.sg (by decide)) n' (ite'_t ⟨⟨C, hc, rfl⟩, hs⟩) (if_pos e3).symm e1⟩, fun e3 => ⟨w'.1.1, mo + 2, w2.1, _, r_callAt h1, ?_⟩⟩
  rintro _ _ ⟨rfl, rfl⟩
  refine ⟨w2.2.1, by rw [w2.2.2]; exact vp_in_nI hk (by decide), _, rfl, PQ.mkOk (s'.sg (by decide)) n' (ite'_t ⟨⟨C, hc, rfl⟩, hs⟩) ?_ e1⟩
  rw [nI_clamp (by omega), if_neg e3, n'.at _ hk, nI_clamp (by omega), nI_clamp (by omega)]
theorem p_cost {c fl u s : Int32} (w : RW mo t ct g) (q : NR mo g f) (hT : TK t nc nf) (W : Row ct nc nf nr f) : CI l x mX8_cost 8 0 0 [.ref mo, .int c, .int fl, .int u, .int s] g (fun v h' => PQ mo g f (aCost f t ct nc nf nr c fl u s) v h') := by
  obtain ⟨⟨m, I⟩, G, _⟩ := W
  have hF := I.hF
  have hC := I.hc
  have w1 : RW mo t ct (sI g mo 1 0) := ⟨w.1, fun k => (gIa _ _ _ _ (by omega)).trans (w.2.1 k), fun k => (gIa _ _ _ _ (by omega)).trans (w.2.2 k)⟩
  refine Cm.of (by decide) (Nat.le_of_ble_eq_true rfl) (vX8_cost_0 ⟨w.1.1, _, c_isCar w1 hT.2 hC, ?_⟩)
  rintro r5 _ ⟨i1, rfl⟩
  refine ⟨fun e => PQ.mkFail rfl w1.1 (SG.refl _ _) q.s1 (ite'_f fun z => i1.mpr z.1 e), fun e => ⟨w1.1.1, _, c_isFloor w1 hT.1.1 hF, ?_⟩⟩
  rintro r16 _ ⟨i2, rfl⟩
  refine ⟨fun e2 => PQ.mkFail rfl w1.1 (SG.refl _ _) q.s1 (ite'_f fun z => i2.mpr z.2.1 e2), fun e2 => ⟨_, c_isIn, ?_⟩⟩
  rintro _ _ ⟨rfl, rfl⟩
  refine ⟨fun e3 => ?_, fun e3 => PQ.mkFail rfl w1.1 (SG.refl _ _) q.s1 (ite'_f fun z => s12_iff.mpr z.2.2 e3)⟩
  have hcI := i1.mp e
  have hfI := i2.mp e2
  have hs := s12_iff.mp e3
  obtain ⟨C, hc, rfl⟩ := hcI
  obtain ⟨L, hl, rfl⟩ := hfI
  obtain ⟨S, rfl, h1, h2⟩ := s12n hs
  have ea : aCost f t ct nc nf nr (nI C) (nI L) u (nI S) = ite' (f (16 + 8 * C + 4) = 0 ∨ takesC ct C (nI S) = 0) (.inr 2) (.inl (costC t ct nr nf m C L S (wy u) f)) := by
    refine (ite'_t ⟨⟨C, hc, rfl⟩, ⟨L, hl, rfl⟩, hs⟩).trans ?_
    rw [nI_clamp (by omega), nI_clamp (by omega), nI_clamp (by omega), I.i_mm]
  rw [ea]
  refine ⟨w1.1.1, _, r_same w1.1 q.s1 (c_carOf (k := 4) w1.1 (by omega) (by decide)), ?_⟩
  rintro _ h' ⟨rfl, s', n'⟩
  have w' := w1.sb s' (by decide) (by decide)
  refine ⟨fun e4 => PQ.mkFail rfl w'.1 (s'.sg (by decide)) n' (ite'_t (Or.inl e4)), fun e4 => ⟨w'.1.1, _, c_takes w'.1 (by omega), ?_⟩⟩
  rintro _ h42 ⟨rfl, e42⟩
  have ect : hI h' (mo + 6) = ct := funext fun k => w'.2.2 k
  rw [ect, e42]
  refine ⟨fun e5 => ⟨w'.1.1, _, n'.lift w'.1 (c_costOf w'.1 (by omega) (by omega) h1 h2 (Inv.good hT.1 hc w'.2.1) (I.cst hc hl h1 h2 e5) w'.2.2), ?_⟩, fun e5 => PQ.mkFail rfl w'.1 (s'.sg (by decide)) n' (ite'_t (Or.inr e5))⟩
  rintro _ h9 ⟨rfl, u9, g9, rfl⟩
  have s9 : SB [2, 11] mo h' (NW mo (rw1 h' (mo + 11) u9) (cpy 312 f g9)) := (SB.row h' u9 (by decide)).trans (SB.nw _ (by decide))
  refine ⟨_, rfl, PQ.mkOk ((s'.sg (by decide)).trans (s9.sg (by decide))) (fun j hj => (hI_rws _ _ _ _).trans (if_pos hj)) (ite'_f fun z => z.elim e4 e5) rfl ?_⟩
  rw [s9.fldE (by decide), s'.fldE (by decide)]
  exact gI _ _ _ _
theorem stp_1 (f : Nat → Int32) (c : Nat) : stpA f (c + 1) = stpA f c + (if f (16 + 8 * c + 2) ≤ 0 then 0 else 1) := by
  rw [stpA]
  split
  · rw [Int32.add_zero]
  · rfl
/-- the end of a look ahead: the row is put back -/
theorem PQ.back {a : Int32 ⊕ Nat} {v : Int32} {h' : PH} (w : MW mo h') (s : SG (scr mo) (sI g mo 1 0) h') (e : ∀ j, j < 312 → hI h' (mo + 12) j = f j) (ea : a = .inl v) (e1 : hI h' mo 1 = 0) : ∃ b10, hR h' mo 2 = some b10 ∧ ∃ b12, hR h' mo 23 = some b12 ∧ ∃ q14 : PH → Prop, CV l x mX8_copyTo 0 0 0 [.ref b10, .ref b12] h' q14 ∧ ∀ h16 : PH, q14 h16 → ∃ r, some (Value.int v) = some (.int r) ∧ PQ mo g f a r h16 := by
  refine ⟨mo + 2, (w.row 2 2 312 (by decide)).1, mo + 12, (w.row 23 12 312 (by decide)).1, _, r_back (f := f) w e, ?_⟩
  rintro h16 ⟨s16, n16⟩
  exact ⟨_, rfl, PQ.mkOk (s.trans (s16.sg (by decide))) n16 ea rfl (by rw [s16.fldE (by decide)]; exact e1)⟩
theorem p_ahead {n k : Int32} (w : RX mo t ct rt g) (q : NR mo g f) (hT : TK t nc nf) (W : Row ct nc nf nr f) : CI l x mX8_ahead 12 0 0 [.ref mo, .int n, .int k] g (fun v h' => PQ mo g f (aAhead f t ct nc nf nr n k) v h') := by
  have hC := W.c4
  have w1 : RX mo t ct rt (sI g mo 1 0) := w.sg s10
  have i1 : (¬ (if k < 0 then 0 else (if 3 < k then 0 else 1 : Int32) : Int32) = 0) ↔ inR k 4 := inR_k (n := 4) rfl (by decide)
  have i2 : (¬ (if n < 0 then 0 else (if 120 < n then 0 else 1 : Int32) : Int32) = 0) ↔ inR n 121 := inR_k (n := 121) rfl (by decide)
  refine Cm.of (by decide) (Nat.le_of_ble_eq_true rfl) (vX8_ahead_0 ⟨w.1.1.1, _, c_isIn, ?_⟩)
  rintro _ _ ⟨rfl, rfl⟩
  refine ⟨fun e => ⟨_, c_isIn, ?_⟩, fun e => PQ.mkFail rfl w1.1.1 (SG.refl _ _) q.s1 (ite'_f fun z => i1.mpr z e)⟩
  rintro _ _ ⟨rfl, rfl⟩
  refine ⟨fun e2 => ?_, fun e2 => PQ.mkFail rfl w1.1.1 (SG.refl _ _) q.s1 ((ite'_t (i1.mp e)).trans (ite'_f fun z => i2.mpr z e2))⟩
  obtain ⟨K, hK, rfl⟩ := i1.mp e
  obtain ⟨N, hN', rfl⟩ := i2.mp e2
  have ea : aAhead f t ct nc nf nr (nI N) (nI K) = .inl (ahV (ticksC t ct nr nf nc f N) nc nr K) := by
    refine ((ite'_t ⟨K, hK, rfl⟩).trans (ite'_t ⟨N, hN', rfl⟩)).trans ?_
    rw [nI_clamp (by omega), nI_clamp (by omega)]
  refine ⟨w1.1.1.1, mo + 12, (w1.1.1.row 23 12 312 (by decide)).1, mo + 2, (w1.1.1.row 2 2 312 (by decide)).1, _, r_save w1.1.1 q.s1, ?_⟩
  rintro h19 ⟨s19, e19⟩
  have w19 := w1.sb s19 (by decide) (by decide) (by decide)
  refine ⟨w19.1.1.1, _, r_ticks w19.1 (q.s1.sb s19 (by decide)) hT W (by omega), ?_⟩
  rintro h23 ⟨s23, n23⟩
  obtain ⟨⟨m', I'⟩, _⟩ := W.ticks hT.1 N
  have loop : ∀ (j c : Nat) (h : PH), c + j = nc → SB [2, 11, 12] mo (sI g mo 1 0) h → NR mo h (ticksC t ct nr nf nc f N) → (∀ j, j < 312 → hI h (mo + 12) j = f j) → Gm l x mX8_ahead 12 57 [(0, .ref mo), (1, .int (nI N)), (2, .int (nI K)), (3, .int (stpA (ticksC t ct nr nf nc f N) c)), (4, .int (nI c))] [] h 0 0 (hN g) (fun v h' => ∃ r, v = some (.int r) ∧ PQ mo g f (aAhead f t ct nc nf nr (nI N) (nI K)) r h') (fun _ _ => False) := by
    intro j
    induction j with
    | zero =>
      intro c h hc sh nh eh
      obtain rfl : c = nc := by omega
      have wh := w1.sb sh (by decide) (by decide) (by decide)
      have w4 := wh.1.1.row 4 4 7 (by decide)
      have w2 := wh.1.1.row 2 2 312 (by decide)
      have w23 := wh.1.1.row 23 12 312 (by decide)
      have e1 : hI h mo 1 = 0 := by rw [sh.fldE (by decide)]; exact gI _ _ _ _
      have bk : ∀ (h' : PH) (v : Int32), SB [2] mo h h' → v = ahV (ticksC t ct nr nf c f N) c nr K → ∃ b10, hR h' mo 2 = some b10 ∧ ∃ b12, hR h' mo 23 = some b12 ∧ ∃ q14 : PH → Prop, CV l x mX8_copyTo 0 0 0 [.ref b10, .ref b12] h' q14 ∧ ∀ h16 : PH, q14 h16 → ∃ r, some (Value.int v) = some (.int r) ∧ PQ mo g f (aAhead f t ct c nf nr (nI N) (nI K)) r h16 := by
        intro h' v s' ev
        exact PQ.back (wh.sb s' (by decide) (by decide) (by decide)).1.1 ((sh.sg (by decide)).trans (s'.sg (by decide))) (fun j hj => by rw [s'.rowE (by decide)]; exact eh j hj) (by rw [ea, ev]) (by rw [s'.fldE (by decide)]; exact e1)
      refine vX8_ahead_57 ⟨wh.1.1.1, mo + 4, w4.1, w4.2.1, by rw [w4.2.2]; exact vp_in_nI (n := 1) (by decide) (by decide), fun _ => ?_, fun e => absurd ?_ e⟩
      · refine ⟨fun k0 => ⟨fun k1 => ⟨fun k2 => bk h _ (SB.refl _ _ _) ?_, fun k2 => ⟨_, r_same wh.1.1 nh (c_waited wh.1.1 I'.h6 I'.hr), ?_⟩⟩, fun k1 => ?_⟩, fun k0 => ⟨_, r_same wh.1.1 nh (c_many wh.1.1 I'.h6 I'.hr), ?_⟩⟩
        · have z0 : ¬ K = 0 := fun z => k0 (by rw [z]; rfl)
          have z1 : ¬ K = 1 := fun z => k1 (by rw [z]; rfl)
          have z2 : ¬ K = 2 := fun z => k2 (by rw [z]; rfl)
          rw [ahV, if_neg z0, if_neg z1, if_neg z2]
        · rintro _ h' ⟨rfl, s', n'⟩
          obtain rfl : K = 2 := (nI_eq (by omega) (by decide)).mp k2
          exact ⟨by rw [s'.hK]; exact wh.1.1.1, bk h' _ s' rfl⟩
        · obtain rfl : K = 1 := (nI_eq (by omega) (by decide)).mp k1
          obtain ⟨b10, y1, b12, y2, y3⟩ := bk h (hI h (mo + 2) (Int32.toNatClampNeg 5)) (SB.refl _ _ _) (nh.at 5 (by decide))
          obtain rfl : b10 = mo + 2 := Option.some.inj (y1.symm.trans w2.1)
          exact ⟨mo + 2, w2.1, w2.2.1, by rw [w2.2.2]; exact vp_in_nI (n := 5) (by decide) (by decide), b12, y2, y3⟩
        · rintro _ h' ⟨rfl, s', n'⟩
          obtain rfl : K = 0 := (nI_eq (by omega) (by decide)).mp k0
          exact ⟨by rw [s'.hK]; exact wh.1.1.1, bk h' _ s' rfl⟩
      · rw [show hI h (mo + 4) (Int32.toNatClampNeg 1) = nI c from (wh.1.2.1 1).trans hT.2]
        exact nI_le (Nat.le_refl _) (by omega)
    | succ j ih =>
      intro c h hc sh nh eh
      have wh := w1.sb sh (by decide) (by decide) (by decide)
      have w4 := wh.1.1.row 4 4 7 (by decide)
      refine vX8_ahead_57 ⟨wh.1.1.1, mo + 4, w4.1, w4.2.1, by rw [w4.2.2]; exact vp_in_nI (n := 1) (by decide) (by decide), fun e => absurd e ?_, fun _ => ⟨_, r_same wh.1.1 nh (c_carOf (k := 2) wh.1.1 (by omega) (by decide)), ?_⟩⟩
      · rw [show hI h (mo + 4) (Int32.toNatClampNeg 1) = nI nc from (wh.1.2.1 1).trans hT.2]
        exact nI_ge (by omega) (by omega)
      · rintro _ h' ⟨rfl, s', n'⟩
        rw [nI_1, ← stp_1]
        exact ih (c + 1) h' (by omega) (sh.trans (s'.mono (by decide))) n' (fun j hj => by rw [s'.rowE (by decide)]; exact eh j hj)
  exact loop nc 0 h23 (by omega) ((s19.mono (by decide)).trans (s23.mono (by decide))) n23 (fun j hj => by rw [s23.rowE (by decide)]; exact e19 j hj)
theorem p_when {r : Int32} (w : RX mo t ct rt g) (q : NR mo g f) (hT : TK t nc nf) (W : Row ct nc nf nr f) : CI l x mX8_when 12 0 0 [.ref mo, .int r] g (fun v h' => PQ mo g f (aWhen f t ct nc nf nr r) v h') := by
  have h24 := W.r24
  have w1 : RX mo t ct rt (sI g mo 1 0) := w.sg s10
  refine Cm.of (by decide) (Nat.le_of_ble_eq_true rfl) (vX8_when_0 ⟨w.1.1.1, _, c_isRider w1.1.1 q.s1 W.f6 W.r24, ?_⟩)
  rintro r5 _ ⟨i1, rfl⟩
  refine ⟨fun e => ?_, fun e => PQ.mkFail rfl w1.1.1 (SG.refl _ _) q.s1 (ite'_f fun z => i1.mpr z e)⟩
  obtain ⟨K, hK, rfl⟩ := i1.mp e
  have ea : aWhen f t ct nc nf nr (nI K) = .inl (ticksC t ct nr nf nc f 200 (48 + 9 * K + 7)) := by
    refine (ite'_t ⟨K, hK, rfl⟩).trans ?_
    rw [nI_clamp (by omega)]
  refine ⟨w1.1.1.1, mo + 12, (w1.1.1.row 23 12 312 (by decide)).1, mo + 2, (w1.1.1.row 2 2 312 (by decide)).1, _, r_save w1.1.1 q.s1, ?_⟩
  rintro h19 ⟨s19, e19⟩
  have w19 := w1.sb s19 (by decide) (by decide) (by decide)
  refine ⟨w19.1.1.1, _, r_ticks (n := 200) w19.1 (q.s1.sb s19 (by decide)) hT W (by decide), ?_⟩
  rintro h23 ⟨s23, n23⟩
  have w23 := w19.sb s23 (by decide) (by decide) (by decide)
  refine ⟨w23.1.1.1, _, r_same w23.1.1 n23 (c_of (k := 7) w23.1.1 (by omega) (by decide)), ?_⟩
  rintro _ h22 ⟨rfl, s22, n22⟩
  have w22 := w23.sb s22 (by decide) (by decide) (by decide)
  refine ⟨w22.1.1.1, PQ.back w22.1.1 (((s19.sg (by decide)).trans (s23.sg (by decide))).trans (s22.sg (by decide))) (fun j hj => by rw [s22.rowE (by decide), s23.rowE (by decide)]; exact e19 j hj) ea ?_⟩
  rw [s22.fldE (by decide), s23.fldE (by decide), s19.fldE (by decide)]
  exact gI _ _ _ _
end Pub2
