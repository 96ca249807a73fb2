/-! YEARS: draws, and the reference's years -/
def nx (s : Int32) : Int32 := s * 1103515245 + 12345
def q15 (s : Int32) : Nat := s.toBitVec.toNat / 65536 % 32768
theorem b_q15 : ∀ i, i < 32 → bt 32767 i = decide (i < 15) := by decide +kernel
theorem dr_u (s : Int32) : (ius s 16) &&& 32767 = nI (q15 s) := by
  refine Int32.toBitVec_inj.mp (BitVec.eq_of_toNat_eq ?_)
  have e1 : (ius s 16).toBitVec = s.toBitVec >>> 16 := rfl
  rw [Int32.toBitVec_and, e1, BitVec.toNat_and, BitVec.toNat_ushiftRight]
  show s.toBitVec.toNat >>> 16 &&& 32767 = (BitVec.ofNat 32 (q15 s)).toNat
  rw [BitVec.toNat_ofNat, show (32767 : Nat) = 2 ^ 15 - 1 from rfl, Nat.and_two_pow_sub_one_eq_mod, Nat.shiftRight_eq_div_pow]
  unfold q15
  omega
theorem dr_s (s : Int32) : (s >>> ((16 : Int32) &&& 31)) &&& 32767 = nI (q15 s) := by
  rw [← dr_u]
  refine b_ext fun i hi => ?_
  rw [b_and, b_and, show s >>> ((16 : Int32) &&& 31) = s >>> (nI 16 &&& 31) from rfl, show ius s 16 = ius s (nI 16) from rfl, b_sshr 16 (by decide) s hi, show bt (ius s (nI 16)) i = bt s (16 + i) from b_ushr 16 (by decide) s i, b_q15 i hi]
  by_cases z : i < 15
  · rw [if_pos (by omega)]
  · rw [decide_eq_false z, Bool.and_false, Bool.and_false]
def dN (s : Int32) (n : Nat) : Nat := q15 s % n
theorem q15_lt (s : Int32) : q15 s < 32768 := Nat.mod_lt _ (by decide)
theorem dN_lt {s : Int32} {n : Nat} (h : 0 < n) : dN s n < n := Nat.mod_lt _ h
theorem dN_eq {s : Int32} {n : Nat} (h : 0 < n) (hn : n < 2 ^ 31) : nI (q15 s) - nI (q15 s) / nI n * nI n = nI (dN s n) := pk_rem (by have := q15_lt s; omega) h hn
/-- one year: seed, row, how many riders -/
def yrB (s : Int32) (nf : Nat) : Nat := if dN (nx (nx s)) (nf - 1) < dN (nx s) nf then dN (nx (nx s)) (nf - 1) else dN (nx (nx s)) (nf - 1) + 1
def yrC (nf : Nat) (y : Int32 × (Nat → Int32) × Nat) : (Nat → Int32) × Nat := if 24 ≤ y.2.2 then (y.2.1, y.2.2) else (cwF y.2.1 y.2.2 (nI (dN (nx y.1) nf)) (nI (yrB y.1 nf)) (nI (dN (nx (nx (nx y.1))) 2 + 1)), y.2.2 + 1)
def yrT (s : Int32) : Nat := dN (nx (nx (nx (nx s)))) 8 + 1
def trip (a : Int32) (b : Nat → Int32) (c : Nat) : Int32 × (Nat → Int32) × Nat := (a, b, c)
theorem trip_1 (a : Int32) (b : Nat → Int32) (c : Nat) : (trip a b c).1 = a := rfl
theorem trip_21 (a : Int32) (b : Nat → Int32) (c : Nat) : (trip a b c).2.1 = b := rfl
theorem trip_22 (a : Int32) (b : Nat → Int32) (c : Nat) : (trip a b c).2.2 = c := rfl
def yrS (t ct : Nat → Int32) (nc nf : Nat) (y : Int32 × (Nat → Int32) × Nat) : Int32 × (Nat → Int32) × Nat := trip (nx (nx (nx (nx y.1)))) (ticksC t ct (yrC nf y).2 nf nc (yrC nf y).1 (yrT y.1)) (yrC nf y).2
def yrA (t ct : Nat → Int32) (nc nf : Nat) (y : Int32 × (Nat → Int32) × Nat) : Nat → Int32 × (Nat → Int32) × Nat
  | 0 => y
  | n + 1 => yrS t ct nc nf (yrA t ct nc nf y n)
def yrV (y : Int32 × (Nat → Int32) × Nat) (f : Nat → Int32) (nr k : Nat) : Int32 := if k = 0 then mnyA y.2.1 3 y.2.2 else if k = 1 then wtdA y.2.1 y.2.2 - wtdA f nr else y.2.1 5 - f 5
noncomputable def aYears (f t ct : Nat → Int32) (nc nf nr : Nat) (s n k : Int32) : Int32 ⊕ Nat := ite' (inR k 3) (ite' (inR n 21) (.inl (yrV (yrA t ct nc nf (s, f, nr) n.toNatClampNeg) f nr k.toNatClampNeg)) (.inr 2)) (.inr 1)
section Years
variable {l : Launch} {x : CX} {mo nc nf nr nr' m nn : Nat} {g : PH} {f F t ct rt ri ti : Nat → Int32}
theorem yrB_lt {s : Int32} (hf : 2 ≤ nf) : yrB s nf < nf := by
  have h1 := dN_lt (s := nx (nx s)) (n := nf - 1) (by omega)
  have h2 := dN_lt (s := nx s) (n := nf) (by omega)
  unfold yrB
  split <;> omega
theorem so12 (s : Int32) : nI (dN s 2 + 1) = 1 ∨ nI (dN s 2 + 1) = 2 := by
  have h1 := dN_lt (s := s) (n := 2) (by decide)
  have h2 : dN s 2 = 0 ∨ dN s 2 = 1 := by omega
  rcases h2 with z | z <;> rw [z]
  · exact Or.inl rfl
  · exact Or.inr rfl
theorem Row_yc {y : Int32 × (Nat → Int32) × Nat} (hf : 2 ≤ nf) (W : Row ct nc nf y.2.2 y.2.1) : Row ct nc nf (yrC nf y).2 (yrC nf y).1 := by
  unfold yrC
  split
  · exact W
  · exact Row_cw W (by omega) (so12 _) rfl (dN_lt (by omega)) rfl (yrB_lt hf)
theorem Row_ys {y : Int32 × (Nat → Int32) × Nat} (hT : Tok t nf) (hf : 2 ≤ nf) (W : Row ct nc nf y.2.2 y.2.1) : Row ct nc nf (yrS t ct nc nf y).2.2 (yrS t ct nc nf y).2.1 := by
  have h := (Row_yc hf W).ticks hT (yrT y.1)
  rw [yrS, trip_21, trip_22]
  exact h
theorem Row_yr {y : Int32 × (Nat → Int32) × Nat} (hT : Tok t nf) (hf : 2 ≤ nf) (W : Row ct nc nf y.2.2 y.2.1) (n : Nat) : Row ct nc nf (yrA t ct nc nf y n).2.2 (yrA t ct nc nf y n).2.1 := by
  induction n with
  | zero => exact W
  | succ n ih =>
    rw [yrA]
    exact Row_ys hT hf ih
theorem r_draw {n : Nat} (w : MW mo g) (h0 : 0 < n) (hn : n < 2 ^ 31) : CI l x mX8_draw 0 0 0 [.ref mo, .int (nI n)] g (fun v h' => v = nI (dN (nx (hI g mo 32)) n) ∧ h' = sI g mo 32 (nx (hI g mo 32))) := by
  refine Cm.of (by decide) (Nat.le_of_ble_eq_true rfl) (vX8_draw_0 ⟨w.1, nI_ne0 h0 hn, _, rfl, ?_, rfl⟩)
  rw [gI, dr_s, dN_eq h0 hn]
  unfold nx
  rfl
theorem s32 {v : Int32} : SG (scr mo) g (sI g mo 32 v) := SG.sI (Or.inr (Or.inr (Or.inr (Or.inr (Or.inr ⟨rfl, Or.inr (Or.inr (Or.inr rfl))⟩)))))
set_option maxHeartbeats 1000000 in
theorem p_years {sd n k : Int32} (w : RX mo t ct rt g) (q : NR mo g f) (T : TD t ct rt nc nf nr') (W : Row ct nc nf nr f) : CI l x mX8_years 12 0 0 [.ref mo, .int sd, .int n, .int k] g (fun v h' => PQ mo g f (aYears f t ct nc nf nr sd n k) v h') := by
  have hf := T.f2
  have hF := T.f12
  have w1 : RX mo t ct rt (sI g mo 1 0) := w.sg s10
  have i1 : (¬ (if k < 0 then 0 else (if 2 < k then 0 else 1 : Int32) : Int32) = 0) ↔ inR k 3 := inR_k (n := 3) rfl (by decide)
  have i2 : (¬ (if n < 0 then 0 else (if 20 < n then 0 else 1 : Int32) : Int32) = 0) ↔ inR n 21 := inR_k (n := 21) rfl (by decide)
  refine Cm.of (by decide) (Nat.le_of_ble_eq_true rfl) (vX8_years_0 ⟨w.1.1.1, _, c_isIn, ?_⟩)
  rintro _ _ ⟨rfl, rfl⟩
  refine ⟨fun e => ⟨_, c_isIn, ?_⟩, fun e => PQ.mkFail rfl w1.1.1 (SG.refl _ _) q.s1 (ite'_f fun z => i1.mpr z e)⟩
  rintro _ _ ⟨rfl, rfl⟩
  refine ⟨fun e2 => ?_, fun e2 => PQ.mkFail rfl w1.1.1 (SG.refl _ _) q.s1 ((ite'_t (i1.mp e)).trans (ite'_f fun z => i2.mpr z e2))⟩
  obtain ⟨K, hK9, rfl⟩ := i1.mp e
  obtain ⟨N, hN', rfl⟩ := i2.mp e2
  have ea : aYears f t ct nc nf nr sd (nI N) (nI K) = .inl (yrV (yrA t ct nc nf (sd, f, nr) N) f nr K) := by
    refine ((ite'_t ⟨K, hK9, rfl⟩).trans (ite'_t ⟨N, hN', rfl⟩)).trans ?_
    rw [nI_clamp (by omega), nI_clamp (by omega)]
  refine ⟨w1.1.1.1, mo + 17, (w1.1.1.row 33 17 312 (by decide)).1, mo + 2, (w1.1.1.row 2 2 312 (by decide)).1, _, r_copy (a := 17) (b := 2) (n := 312) (ka := 33) (kb := 2) w1.1.1 (by decide) (by decide) (by decide) (by decide), ?_⟩
  rintro h19 ⟨s19, e19⟩
  have n19 := q.s1.sb s19 (by decide)
  have w19 := w1.sb s19 (by decide) (by decide) (by decide)
  refine ⟨w19.1.1.1, _, r_same w19.1.1 n19 (c_waited w19.1.1 W.f6 W.r24), ?_⟩
  rintro _ h23 ⟨rfl, s23, n23⟩
  have w23 := w19.sb s23 (by decide) (by decide) (by decide)
  refine ⟨w23.1.1.1, ?_⟩
  have loop : ∀ (j i : Nat) (h : PH), i + j = N → SG (scr mo) (sI g mo 1 0) h → NR mo h (yrA t ct nc nf (sd, f, nr) i).2.1 → (∀ j, j < 312 → hI h (mo + 17) j = f j) → hI h mo 1 = 0 → hI h mo 32 = (yrA t ct nc nf (sd, f, nr) i).1 → Gm l x mX8_years 12 61 [(0, .ref mo), (1, .int sd), (2, .int (nI N)), (3, .int (nI K)), (4, .int (wtdA f nr)), (5, .int (nI i))] [] h 0 0 (hN g) (fun v h' => ∃ r, v = some (.int r) ∧ PQ mo g f (aYears f t ct nc nf nr sd (nI N) (nI K)) r h') (fun _ _ => False) := by
    intro j
    induction j with
    | zero =>
      intro i h hi sh nh eh ch dh
      obtain rfl : i = N := by omega
      have wh := w1.sg sh
      have WY := Row_yr (y := (sd, f, nr)) T.tk.1 hf W i
      have w2 := wh.1.1.row 2 2 312 (by decide)
      have w17 := wh.1.1.row 33 17 312 (by decide)
      have bk : ∀ (h' : PH) (v : Int32), SB [2] mo h h' → v = yrV (yrA t ct nc nf (sd, f, nr) i) f nr K → ∃ q14 : PH → Prop, CV l x mX8_copyTo 0 0 0 [.ref (mo + 2), .ref (mo + 17)] h' q14 ∧ ∀ h16 : PH, q14 h16 → ∃ r, some (Value.int v) = some (.int r) ∧ PQ mo g f (aYears f t ct nc nf nr sd (nI i) (nI K)) r h16 := by
        intro h' v s' ev
        have w' := wh.sb s' (by decide) (by decide) (by decide)
        refine ⟨_, r_copy (a := 2) (b := 17) (n := 312) (ka := 2) (kb := 33) w'.1.1 (by decide) (by decide) (by decide) (by decide), ?_⟩
        rintro h16 ⟨s16, e16⟩
        refine ⟨_, rfl, PQ.mkOk ((sh.trans (s'.sg (by decide))).trans (s16.sg (by decide))) (fun j hj => ?_) ea ev ?_⟩
        · rw [e16 j hj, s'.rowE (by decide)]; exact eh j hj
        · rw [s16.fldE (by decide), s'.fldE (by decide)]; exact ch
      refine vX8_years_61 ⟨fun _ => ?_, fun z => absurd (nI_le (Nat.le_refl _) (by omega)) z⟩
      refine ⟨fun k0 => ⟨fun k1 => ⟨wh.1.1.1, mo + 2, w2.1, w2.2.1, by rw [w2.2.2]; exact vp_in_nI (n := 5) (by decide) (by decide), mo + 17, w17.1, w17.2.1, by rw [w17.2.2]; exact vp_in_nI (n := 5) (by decide) (by decide), ?_⟩, fun k1 => ⟨wh.1.1.1, _, r_same wh.1.1 nh (c_waited wh.1.1 WY.f6 WY.r24), ?_⟩⟩, fun k0 => ⟨wh.1.1.1, _, r_same wh.1.1 nh (c_many wh.1.1 WY.f6 WY.r24), ?_⟩⟩
      · rintro _ rfl
        have z0 : ¬ K = 0 := fun z => k0 (by rw [z]; rfl)
        have z1 : ¬ K = 1 := fun z => k1 (by rw [z]; rfl)
        refine bk h _ (SB.refl _ _ _) ?_
        rw [yrV, if_neg z0, if_neg z1, show hI h (mo + 2) (Int32.toNatClampNeg 5) = _ from nh.at 5 (by decide), show hI h (mo + 17) (Int32.toNatClampNeg 5) = f 5 from eh 5 (by decide)]
      · rintro _ h' ⟨rfl, s', n'⟩
        obtain rfl : K = 1 := (nI_eq (by omega) (by decide)).mp k1
        have w' := wh.sb s' (by decide) (by decide) (by decide)
        exact ⟨w'.1.1.1, mo + 2, (w'.1.1.row 2 2 312 (by decide)).1, mo + 17, (w'.1.1.row 33 17 312 (by decide)).1, bk h' _ s' rfl⟩
      · rintro _ h' ⟨rfl, s', n'⟩
        obtain rfl : K = 0 := (nI_eq (by omega) (by decide)).mp k0
        have w' := wh.sb s' (by decide) (by decide) (by decide)
        exact ⟨w'.1.1.1, mo + 2, (w'.1.1.row 2 2 312 (by decide)).1, mo + 17, (w'.1.1.row 33 17 312 (by decide)).1, bk h' _ s' rfl⟩
    | succ j ih =>
      intro i h hi sh nh eh ch dh
      have WY := Row_yr (y := (sd, f, nr)) T.tk.1 hf W i
      have WC := Row_yc (y := yrA t ct nc nf (sd, f, nr) i) hf WY
      generalize hy : yrA t ct nc nf (sd, f, nr) i = y at nh dh WY WC
      have hS : yrA t ct nc nf (sd, f, nr) (i + 1) = yrS t ct nc nf y := by rw [yrA, hy]
      have wh := w1.sg sh
      have w4 := wh.1.1.row 4 4 7 (by decide)
      have t0 : ∀ h : PH, RX mo t ct rt h → hI h (mo + 4) (Int32.toNatClampNeg 0) = nI nf := fun h wh => (wh.1.2.1 0).trans T.tk.1.1
      refine vX8_years_61 ⟨fun z => absurd z (nI_ge (by omega) (by omega)), fun _ => ⟨wh.1.1.1, mo + 4, w4.1, w4.2.1, by rw [w4.2.2]; exact vp_in_nI (n := 0) (by decide) (by decide), ?_⟩⟩
      rw [t0 h wh]
      refine ⟨_, r_draw wh.1.1 (by omega) (by omega), ?_⟩
      rintro _ _ ⟨rfl, rfl⟩
      rw [dh]
      have sA : SG (scr mo) (sI g mo 1 0) (sI h mo 32 (nx y.1)) := sh.trans s32
      have wA := w1.sg sA
      have v4 := wA.1.1.row 4 4 7 (by decide)
      refine ⟨wA.1.1.1, mo + 4, v4.1, v4.2.1, by rw [v4.2.2]; exact vp_in_nI (n := 0) (by decide) (by decide), ?_⟩
      rw [t0 _ wA, show nI nf - 1 = nI (nf - 1) from by obtain ⟨z, rfl⟩ : ∃ z, nf = z + 1 := ⟨nf - 1, by omega⟩; exact nI_pred z]
      refine ⟨_, r_draw wA.1.1 (by omega) (by omega), ?_⟩
      rintro _ _ ⟨rfl, rfl⟩
      rw [gI]
      have sB : SG (scr mo) (sI g mo 1 0) (sI (sI h mo 32 (nx y.1)) mo 32 (nx (nx y.1))) := sA.trans s32
      have wB := w1.sg sB
      refine ⟨wB.1.1.1, _, r_draw (n := 2) wB.1.1 (by decide) (by decide), ?_⟩
      rintro _ _ ⟨rfl, rfl⟩
      rw [gI]
      generalize hh : sI (sI (sI h mo 32 (nx y.1)) mo 32 (nx (nx y.1))) mo 32 (nx (nx (nx y.1))) = hC
      have sC : SG (scr mo) (sI g mo 1 0) hC := by rw [← hh]; exact sB.trans s32
      have nC : NR mo hC y.2.1 := by rw [← hh]; exact nh.s1.s1.s1
      have eC : ∀ j, j < 312 → hI hC (mo + 17) j = f j := fun j hj => by
        rw [← hh, gIa _ _ _ _ (by omega), gIa _ _ _ _ (by omega), gIa _ _ _ _ (by omega)]
        exact eh j hj
      have cC : hI hC mo 1 = 0 := by
        rw [← hh, gIk _ _ _ (by decide), gIk _ _ _ (by decide), gIk _ _ _ (by decide)]
        exact ch
      have dC : hI hC mo 32 = nx (nx (nx y.1)) := by rw [← hh]; exact gI _ _ _ _
      have wC := w1.sg sC
      have w2 := wC.1.1.row 2 2 312 (by decide)
      -- the ticks of the year
      have last : ∀ hD : PH, SG (scr mo) (sI g mo 1 0) hD → NR mo hD (yrC nf y).1 → (∀ j, j < 312 → hI hD (mo + 17) j = f j) → hI hD mo 1 = 0 → hI hD mo 32 = nx (nx (nx y.1)) → ∃ q73 : Int32 → PH → Prop, CI l x mX8_draw 0 0 0 [.ref mo, .int 8] hD q73 ∧ ∀ (r76 : Int32) (h75 : PH), q73 r76 h75 → ((hK h75 mo).1 = 8) ∧ ∃ (q77 : PH → Prop), CV l x mX8_ticksNow 11 0 0 [.ref mo, .int (r76 + 1)] h75 q77 ∧ ∀ (h80 : PH), q77 h80 → Gm l x mX8_years 12 61 [(0, .ref mo), (1, .int sd), (2, .int (nI N)), (3, .int (nI K)), (4, .int (wtdA f nr)), (5, .int (nI i + 1))] [] h80 0 0 (hN g) (fun v h' => ∃ r, v = some (.int r) ∧ PQ mo g f (aYears f t ct nc nf nr sd (nI N) (nI K)) r h') (fun _ _ => False) := by
        intro hD sD nD eD cD dD
        have wD := w1.sg sD
        refine ⟨_, r_draw (n := 8) wD.1.1 (by decide) (by decide), ?_⟩
        rintro _ _ ⟨rfl, rfl⟩
        rw [dD]
        have sE : SG (scr mo) (sI g mo 1 0) (sI hD mo 32 (nx (nx (nx (nx y.1))))) := sD.trans s32
        have wE := w1.sg sE
        have h8 := dN_lt (s := nx (nx (nx (nx y.1)))) (n := 8) (by decide)
        rw [nI_1, show dN (nx (nx (nx (nx y.1)))) 8 + 1 = yrT y.1 from rfl]
        have h8' : yrT y.1 < 100000 := by unfold yrT; omega
        refine ⟨wE.1.1.1, _, r_ticks wE.1 nD.s1 T.tk WC h8', ?_⟩
        rintro h80 ⟨s80, n80⟩
        rw [nI_1]
        refine ih (i + 1) h80 (by omega) (sE.trans (s80.sg (by decide))) ?_ (fun j hj => ?_) ?_ ?_
        · rw [hS, yrS, trip_21]; exact n80
        · rw [s80.rowE (by decide), gIa _ _ _ _ (by omega)]; exact eD j hj
        · rw [s80.fldE (by decide), gIk _ _ _ (by decide)]; exact cD
        · rw [s80.fldE (by decide), hS, yrS, trip_1]; exact gI _ _ _ _
      refine ⟨wC.1.1.1, mo + 2, w2.1, w2.2.1, by rw [w2.2.2]; exact vp_in_nI (n := 6) (by decide) (by decide), ?_⟩
      rw [show hI hC (mo + 2) (Int32.toNatClampNeg 6) = nI y.2.2 from (nC.at 6 (by decide)).trans WY.f6]
      have h24 := WY.r24
      refine ⟨fun z => ?_, fun z => ?_⟩
      · have h9 : 24 ≤ y.2.2 := Nat.le_of_not_lt fun u => absurd z (nI_ge (b := 24) u (by decide))
        exact last hC sC (by rw [yrC, if_pos h9]; exact nC) eC cC dC
      · have h9 : y.2.2 < 24 := Nat.lt_of_not_le fun u => z (nI_le (a := 24) u (by omega))
        have eb : (if nI (dN (nx (nx y.1)) (nf - 1)) < nI (dN (nx y.1) nf) then nI (dN (nx (nx y.1)) (nf - 1)) else (nI (dN (nx (nx y.1)) (nf - 1)) + 1) : Int32) = nI (yrB y.1 nf) := by
          have b1 := dN_lt (s := nx (nx y.1)) (n := nf - 1) (by omega)
          have b2 := dN_lt (s := nx y.1) (n := nf) (by omega)
          unfold yrB
          by_cases u : dN (nx (nx y.1)) (nf - 1) < dN (nx y.1) nf
          · rw [if_pos u, if_pos (nI_lt u (by omega))]
          · rw [if_neg u, if_neg (nI_nlt (by omega) (by omega)), nI_1]
        rw [eb, nI_1]
        refine ⟨_, r_comesNow wC.1.1 nC WY h9, ?_⟩
        rintro _ h84 ⟨rfl, s84, n84⟩
        have g84 := sC.trans (s84.sg (by decide))
        refine ⟨(w1.sg g84).1.1.1, last h84 g84 (by rw [yrC, if_neg (by omega)]; exact n84) (fun j hj => ?_) ?_ ?_⟩
        · rw [s84.rowE (by decide)]; exact eC j hj
        · rw [s84.fldE (by decide)]; exact cC
        · rw [s84.fldE (by decide)]; exact dC
  refine loop N 0 _ (by omega) (((s19.sg (by decide)).trans (s23.sg (by decide))).trans s32) n23.s1 (fun j hj => ?_) ?_ (gI _ _ _ _)
  · rw [gIa _ _ _ _ (by omega), s23.rowE (by decide), e19 j hj]
    exact q.s1 j hj
  · rw [gIk _ _ _ (by decide), s23.fldE (by decide), s19.fldE (by decide)]
    exact gI _ _ _ _
end Years
