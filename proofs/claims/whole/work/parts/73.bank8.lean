/-! THE CLASS: a rider comes; a quiet Bank -/
theorem fb_rev : ∀ (n : Nat) (p : Nat → Bool), fb_ct (fun i => p (n - 1 - i)) n = fb_ct p n
  | 0, _ => rfl
  | n + 1, p => by
    have h1 := fb_ct_split (fun i => p (n + 1 - 1 - i)) 1 n
    rw [show 1 + n = n + 1 by omega] at h1
    rw [h1, fb_ct_succ p n]
    have h2 : fb_ct (fun i => p (n + 1 - 1 - i)) 1 = if p n then 1 else 0 := by
      rw [fb_ct_succ]
      show 0 + _ = _
      rw [Nat.zero_add, show n + 1 - 1 - 0 = n by omega]
    have h3 : fb_ct (fun k => (fun i => p (n + 1 - 1 - i)) (1 + k)) n = fb_ct (fun i => p (n - 1 - i)) n := fb_ct_cong fun k hk => by
      show p (n + 1 - 1 - (1 + k)) = p (n - 1 - k)
      rw [show n + 1 - 1 - (1 + k) = n - 1 - k by omega]
    rw [h2, h3, fb_rev n p]
    omega
theorem pkA_ct {f : Nat → Int32} : ∀ n, pkA f n = nI (fb_ct (fun k => decide (f (8 + k) = 0)) n)
  | 0 => rfl
  | n + 1 => by
    rw [pkA, pkA_ct n, fb_ct_succ]
    by_cases e : f (8 + n) = 0
    · rw [if_pos e, if_pos (decide_eq_true e), nI_1]
    · rw [if_neg e, if_neg (by rw [decide_eq_true_eq]; exact e), Int32.add_zero, Nat.add_zero]
theorem ArrI.bc {f : Nat → Int32} {A : Int32} (q : ArrI f A) : bc A = pkA f (min 8 (mm f)) := by
  rw [bc_ct, pkA_ct]
  congr 1
  have h1 := fb_ct_split (bt A) (min 8 (mm f)) (32 - min 8 (mm f))
  rw [show min 8 (mm f) + (32 - min 8 (mm f)) = 32 by omega] at h1
  have h2 : fb_ct (fun k => bt A (min 8 (mm f) + k)) (32 - min 8 (mm f)) = 0 := fb_ct_zero.mpr fun k hk => by
    cases e : bt A (min 8 (mm f) + k) with
    | false => rfl
    | true => exact absurd ((q _ (by omega)).mp e).1 (by omega)
  rw [h1, h2, Nat.add_zero, ← fb_rev (min 8 (mm f)) (fun k => decide (f (8 + k) = 0))]
  refine fb_ct_cong fun k hk => ?_
  cases e : bt A k with
  | true => exact (decide_eq_true ((q k (by omega)).mp e).2).symm
  | false =>
    refine (decide_eq_false fun z => ?_).symm
    rw [(q k (by omega)).mpr ⟨hk, z⟩] at e
    cases e
section Bank8
variable {l : Launch} {x : CX} {h h' : PH} {o a c nc nf nr m : Nat} {f f' g g' u t ct : Nat → Int32}
theorem mm_com {r : Nat} (h7 : f 7 = nI m) (hm : m < 1000) : mm (comC f r) = m + 1 := by
  unfold mm comC
  rw [up_eq, h7, nI_1, nI_clamp (by omega)]
theorem com_at {r k : Nat} (hr : r < 24) (h7 : f 7 = nI m) (hm : m < 1000) (hk : k < min 8 (m + 1)) : comC f r (8 + (min 8 (m + 1) - 1 - k)) = if k = 0 then f (48 + 9 * r + 2) else f (8 + (min 8 m - 1 - (k - 1))) := by
  have em : mm f = m := by unfold mm; rw [h7, nI_clamp (by omega)]
  have cm : ∀ j, j < 48 → cmG f r j = f j := fun j hj => by
    unfold cmG
    rw [up_ne (by omega), up_ne (by omega)]
  unfold comC
  rw [up_ne (by omega), em]
  by_cases e : k = 0
  · rw [if_pos e, e, show 8 + (min 8 (m + 1) - 1 - 0) = 8 + min 7 m by omega, up_eq]
  · rw [if_neg e, up_ne (by omega)]
    by_cases e8 : m < 8
    · rw [if_pos e8, cm _ (by omega), show 8 + (min 8 (m + 1) - 1 - k) = 8 + (min 8 m - 1 - (k - 1)) by omega]
    · rw [if_neg e8]
      unfold shA
      rw [if_pos (by omega), cm _ (by omega), show 8 + (min 8 (m + 1) - 1 - k) + 1 = 8 + (min 8 m - 1 - (k - 1)) by omega]
theorem ArrI.com {A : Int32} {r : Nat} (q : ArrI f A) (hr : r < 24) (h7 : f 7 = nI m) (hm : m < 1000) : ArrI (comC f r) (((A <<< ((1 : Int32) &&& 31)) ||| (if f (48 + 9 * r + 2) = 0 then 1 else 0 : Int32)) &&& 255) := by
  have em : mm f = m := by unfold mm; rw [h7, nI_clamp (by omega)]
  have e1 : ∀ i, i < 32 → bt 1 i = decide (i = 0) := by decide +kernel
  intro i hi
  rw [mm_com h7 hm, b_and, b_255, b_or, show (1 : Int32) = nI 1 from rfl, b_shl 1 (by omega) _ hi]
  have qi : ∀ j, j < 32 → (bt A j = true ↔ j < min 8 m ∧ f (8 + (min 8 m - 1 - j)) = 0) := fun j hj => by
    have := q j hj
    rw [em] at this
    exact this
  by_cases e0 : i = 0
  · subst e0
    rw [com_at hr h7 hm (by omega), if_pos rfl]
    by_cases z : f (48 + 9 * r + 2) = 0
    · rw [if_pos z, show nI 1 = (1 : Int32) from rfl, e1 0 (by omega)]
      simp [z]
      omega
    · rw [if_neg z, b_0]
      simp [z]
  · have hb : bt (if f (48 + 9 * r + 2) = 0 then nI 1 else 0 : Int32) i = false := by
      split
      · rw [show nI 1 = (1 : Int32) from rfl, e1 i hi, decide_eq_false e0]
      · exact b_0 i
    rw [hb, Bool.or_false, Bool.and_eq_true, Bool.and_eq_true, decide_eq_true_eq, decide_eq_true_eq, qi (i - 1) (by omega)]
    constructor
    · rintro ⟨⟨z1, z2, z3⟩, z4⟩
      refine ⟨by omega, ?_⟩
      rw [com_at hr h7 hm (by omega), if_neg e0]
      exact z3
    · rintro ⟨z1, z2⟩
      rw [com_at hr h7 hm z1, if_neg e0] at z2
      exact ⟨⟨by omega, by omega, z2⟩, by omega⟩
theorem com_pl {r j : Nat} (hr : r < 24) (h7 : j ≠ 7) (hj : j < 8 ∨ 16 ≤ j) (h4 : j ≠ 48 + 9 * r + 4) (h5 : j ≠ 48 + 9 * r + 5) : comC f r j = f j := by
  rw [com_lo h7 hj]
  unfold cmG
  rw [up_ne h5, up_ne h4]
theorem k_arrive {r : Nat} (R : BR h o t ct nc nf nr f) (I : Inv ct nc nf nr m f) (hr : r < nr) (h0 : f (48 + 9 * r + 4) = 0) : CV l x mX1_arrive 1 0 0 [.ref o, .ref (o + 8 + r)] h (fun h' => FrB o h h' ∧ BR h' o t ct nc nf nr (comC f r)) := by
  have hC := I.hc
  have h24 := I.hr
  have hm := I.mlt
  have S := R.s
  have pr := S.pr r (by omega)
  have ro := R.ri r hr
  have e : ∀ k, k < 9 → comC f r (48 + 9 * r + k) = if k = 4 then 1 else if k = 5 then f (48 + 9 * r + 2) else f (48 + 9 * r + k) := by
    intro k hk
    rw [com_lo (by omega) (by omega)]
    unfold cmG
    by_cases k5 : k = 5
    · rw [k5, up_eq]; rfl
    · rw [up_ne (by omega)]
      by_cases k4 : k = 4
      · rw [k4, up_eq]; rfl
      · rw [up_ne (by omega), if_neg k4, if_neg k5]
  refine Cm.of (by decide) (Nat.le_of_ble_eq_true rfl) (vX1_arrive_0 ⟨pr.2, ?_⟩)
  rw [ro.fr]
  refine ⟨_, k_waitAt (g := comC f r) pr.2 ro e, ?_⟩
  rintro h4 ⟨fr, ro4⟩
  have S4 := S.fr fr
  have e6 : hI h4 o 6 = tellsT t 6 := (fr.hI (by omega) 6).trans R.pk
  have e10 : hI h4 o 10 = hI h o 10 := fr.hI (by omega) 10
  have e2 : hI h4 (o + 8 + r) 2 = f (48 + 9 * r + 2) := ro4.fr.trans (e 2 (by omega))
  have fin : ∀ h' : PH, Fr1 o h4 h' → (∀ k, k ≠ 10 → k ≠ 11 → hI h' o k = hI h4 o k) → hI h' o 10 = (((hI h o 10 <<< ((1 : Int32) &&& 31)) ||| (if f (48 + 9 * r + 2) = 0 then 1 else 0 : Int32)) &&& 255) → hI h' o 11 = peakC (comC f r) t (min 8 (mm (comC f r))) → (none : Option Value) = none ∧ FrB o h h' ∧ BR h' o t ct nc nf nr (comC f r) := by
    intro h' fr2 ek ea ep
    have ek' : ∀ k, k ≠ 10 → k ≠ 11 → hI h' o k = hI h o k := fun k k1 k2 => (ek k k1 k2).trans (fr.hI (by omega) k)
    have ac : ∀ b, b ≠ o + 8 + r → b ≠ o → Ac b h h' := fun b h1 h2 => (fr.ac h1).trans (fr2.ac h2)
    refine ⟨rfl, (fr.frb (by omega) (by omega)).trans (fr2.frb (by omega) (by omega)), S4.fr fr2, (ek' 0 (by omega) (by omega)).trans R.fl, (ek' 1 (by omega) (by omega)).trans R.nc, (ek' 2 (by omega) (by omega)).trans R.nr, (ek' 3 (by omega) (by omega)).trans R.dw, ?_, ?_, (ek' 6 (by omega) (by omega)).trans R.pk, ?_, ?_, ?_, ?_, ep, ?_, fun c hc => ?_, fun r' hr' => ?_, ?_⟩
    · rw [ek' 4 (by omega) (by omega), com_pl (by omega) (by omega) (by omega) (by omega) (by omega)]; exact R.la
    · rw [ek' 5 (by omega) (by omega), com_pl (by omega) (by omega) (by omega) (by omega) (by omega)]; exact R.po
    · rw [ek' 7 (by omega) (by omega), com_pl (by omega) (by omega) (by omega) (by omega) (by omega)]; exact R.ti
    · rw [ek' 8 (by omega) (by omega), com_pl (by omega) (by omega) (by omega) (by omega) (by omega)]; exact R.bu
    · rw [ek' 9 (by omega) (by omega), com_pl (by omega) (by omega) (by omega) (by omega) (by omega)]; exact R.tu
    · rw [ea]
      exact R.ar.com (by omega) I.h7 (by omega)
    · rw [ek' 12 (by omega) (by omega), R.fi]
      congr 1
      refine fb_ct_cong fun r' hr' => ?_
      by_cases z : r' = r
      · subst z
        rw [h0, e 4 (by omega), if_pos rfl]
        decide
      · rw [com_pl (by omega) (by omega) (by omega) (by omega) (by omega)]
    · have a := ac (o + 4 + c) (by omega) (by omega)
      refine (R.ca c hc).oth (by rw [a.1]; exact (S.lc c (by omega)).2) (fun k => (a.2 k).1) (fun k => (a.2 k).2.2.1) (a.2 11).2.1 (fun k hk => com_pl (by omega) (by omega) (by omega) (by omega) (by omega)) (fun r' hr' => com_pl (by omega) (by omega) (by omega) (by omega) (by omega)) fun i hi => ?_
      rw [(a.2 12).2.1, com_pl (by omega) (by omega) (by omega) (by omega) (by omega)]
      exact (R.ca c hc).1.ca i hi
    · by_cases z : r' = r
      · subst z
        exact ro4.ac (fr2.ac (by omega))
      · exact ((R.ri r' hr').ac (ac _ (by omega) (by omega))).row fun k hk => com_pl (by omega) (by omega) (by omega) (by omega) (by omega)
    · rw [ps_eq (fun c hc => ((ac (o + 4 + c) (by omega) (by omega)).2 8).1) nc (Nat.le_refl _), com_pl (by omega) (by omega) (by omega) (by omega) (by omega)]
      exact R.pa
  have bcE : bc (((hI h o 10 <<< ((1 : Int32) &&& 31)) ||| (if f (48 + 9 * r + 2) = 0 then 1 else 0 : Int32)) &&& 255) = pkA (comC f r) (min 8 (mm (comC f r))) := (R.ar.com (r := r) (by omega) I.h7 (by omega)).bc
  refine ⟨S4.k, (S4.pr r (by omega)).2, ?_⟩
  rw [e6, e10, e2]
  refine ⟨fun z => fin _ (((Fr1.refl _ _).sI _ _).sI _ _) ?_ ?_ ?_, fun z => ⟨_, c_bitCount, ?_⟩⟩
  · intro k k1 k2
    rw [gIk _ _ _ k2, gIk _ _ _ k1]
  · rw [gIk _ _ _ (by decide), gI]
  · rw [gI]
    unfold peakC
    rw [if_pos z]
  · rintro _ _ ⟨rfl, rfl⟩
    have e6' : ∀ v, hI (sI h4 o 10 v) o 6 = tellsT t 6 := fun v => by rw [gIk _ _ _ (by decide)]; exact e6
    rw [e6', gI, bcE]
    have pE : (if pkA (comC f r) (min 8 (mm (comC f r))) < tellsT t 6 then 0 else 1 : Int32) = peakC (comC f r) t (min 8 (mm (comC f r))) := by
      unfold peakC
      rw [if_neg z]
    rw [pE]
    refine ⟨S4.k, ?_, fin _ (((Fr1.refl _ _).sI _ _).sI _ _) ?_ ?_ ?_⟩
    · unfold peakC
      split
      · exact Or.inl rfl
      · split
        · exact Or.inl rfl
        · exact Or.inr rfl
    · intro k k1 k2
      rw [gIk _ _ _ k2, gIk _ _ _ k1]
    · rw [gIk _ _ _ (by decide), gI]
    · rw [gI]
/-- quiet: all riders done, every car in service at rest -/
def QP (t : Nat → Int32) (nc nr : Nat) (f : Nat → Int32) : Prop := cnt f 3 nr = nr ∧ ∀ c, c < nc → f (16 + 8 * c + 4) = 0 ∨ (f (16 + 8 * c + 2) = 0 ∧ f (16 + 8 * c) = parksC f t (min 8 (mm f)) c)
theorem k_isQuiet (R : BR h o t ct nc nf nr f) (I : Inv ct nc nf nr m f) : CI l x mX1_isQuiet 1 0 0 [.ref o] h (fun v h' => ((v = 0 ∨ v = 1) ∧ (¬ v = 0 ↔ QP t nc nr f)) ∧ h' = h) := by
  have hC := I.hc
  have h24 := I.hr
  have S := R.s
  have cn : cnt f 3 nr ≤ nr := fb_ct_le _ _
  have no : ¬ QP t nc nr f → (∃ r, some (Value.int 0) = some (.int r) ∧ ((r = 0 ∨ r = 1) ∧ (¬ r = 0 ↔ QP t nc nr f)) ∧ h = h) := fun q => ⟨0, rfl, ⟨Or.inl rfl, fun z => absurd rfl z, fun z => absurd z q⟩, rfl⟩
  have loop : ∀ (j c : Nat), c + j = nc → cnt f 3 nr = nr → (∀ c', c' < c → f (16 + 8 * c' + 4) = 0 ∨ (f (16 + 8 * c' + 2) = 0 ∧ f (16 + 8 * c') = parksC f t (min 8 (mm f)) c')) → Gm l x mX1_isQuiet 1 15 [(0, .ref o), (1, .int (nI c))] [] h 0 0 (hN h) (fun v h' => ∃ r, v = some (.int r) ∧ ((r = 0 ∨ r = 1) ∧ (¬ r = 0 ↔ QP t nc nr f)) ∧ h' = h) (fun _ _ => False) := by
    intro j
    induction j with
    | zero =>
      intro c hj h3 hq
      obtain rfl : c = nc := by omega
      refine vX1_isQuiet_15 ⟨S.k, fun _ => ⟨Or.inr rfl, 1, rfl, ⟨Or.inr rfl, fun _ => ⟨h3, hq⟩, fun _ => by decide⟩, rfl⟩, fun e => absurd ?_ e⟩
      rw [R.nc]
      exact nI_le (Nat.le_refl _) (by omega)
    | succ j ih =>
      intro c hj h3 hq
      have lc := S.lc c (by omega)
      have C := (R.ca c (by omega)).1
      have next : (f (16 + 8 * c + 4) = 0 ∨ (f (16 + 8 * c + 2) = 0 ∧ f (16 + 8 * c) = parksC f t (min 8 (mm f)) c)) → Gm l x mX1_isQuiet 1 15 [(0, .ref o), (1, .int (nI c + 1))] [] h 0 0 (hN h) (fun v h' => ∃ r, v = some (.int r) ∧ ((r = 0 ∨ r = 1) ∧ (¬ r = 0 ↔ QP t nc nr f)) ∧ h' = h) (fun _ _ => False) := by
        intro z
        rw [nI_1]
        refine ih (c + 1) (by omega) h3 fun c' hc' => ?_
        by_cases y : c' = c
        · rw [y]; exact z
        · exact hq c' (by omega)
      refine vX1_isQuiet_15 ⟨S.k, fun e => absurd e ?_, fun _ => ⟨o + 1, S.l, by rw [S.lk], ?_, o + 4 + c, ?_, lc.2, fun e1 => next (Or.inl (C.inn ▸ e1)), fun e1 => ⟨fun e2 => ⟨Or.inl rfl, no ?_⟩, fun e2 => ⟨_, k_restOf (g := f) (t := t) (m := mm f) (c := c) S.k lc.2 R.ru C.hm rfl, ?_⟩⟩⟩⟩
      · rw [R.nc]
        exact nI_ge (by omega) (by omega)
      · rw [S.lk]; exact vp_in_nI (by omega) (by decide)
      · rw [nI_clamp (by omega)]; exact lc.1
      · rw [C.dr] at e2
        rw [C.inn] at e1
        intro q
        rcases q.2 c (by omega) with z | z
        · exact e1 z
        · rw [z.1] at e2
          exact absurd e2 (by decide)
      · rintro _ _ ⟨rfl, rfl⟩
        rw [C.dr] at e2
        rw [C.inn] at e1
        rw [C.fl]
        have d0 : f (16 + 8 * c + 2) = 0 := by
          obtain ⟨n, n1, n2⟩ := (I.cars c (by omega)).dr
          cases n with
          | zero => exact n1
          | succ n =>
            rw [n1] at e2
            exact absurd (nI_lt (a := 0) (by omega) (by omega)) e2
        refine ⟨fun e3 => next (Or.inr ⟨d0, e3⟩), fun e3 => ⟨Or.inl rfl, no ?_⟩⟩
        intro q
        rcases q.2 c (by omega) with z | z
        · exact e1 z
        · exact e3 z.2
  refine Cm.of (by decide) (Nat.le_of_ble_eq_true rfl) (vX1_isQuiet_0 ⟨S.k, fun e => ?_, fun e => ⟨Or.inl rfl, no ?_⟩⟩)
  · rw [R.nr, R.fi, nI_leI (by omega) (by omega)] at e
    exact loop nc 0 (by omega) (by omega) fun c' z => absurd z (Nat.not_lt_zero c')
  · intro q
    rw [R.nr, R.fi, nI_leI (by omega) (by omega)] at e
    have := q.1
    omega
theorem k_isAsleep (R : BR h o t ct nc nf nr f) (I : Inv ct nc nf nr m f) : CI l x mX1_isAsleep 2 0 0 [.ref o] h (fun v h' => (¬ v = 0 ↔ QP t nc nr f ∧ ∀ c, c < nc → f (16 + 8 * c + 1) = 0) ∧ h' = h) := by
  have hC := I.hc
  have S := R.s
  have loop : ∀ (j c : Nat) (v : Int32), c + j = nc → (v = 0 ∨ v = 1) → (¬ v = 0 ↔ QP t nc nr f ∧ ∀ c', c' < c → f (16 + 8 * c' + 1) = 0) → Gm l x mX1_isAsleep 2 7 [(0, .ref o), (1, .int v), (2, .int (nI c))] [] h 0 0 (hN h) (fun v h' => ∃ r, v = some (.int r) ∧ (¬ r = 0 ↔ QP t nc nr f ∧ ∀ c, c < nc → f (16 + 8 * c + 1) = 0) ∧ h' = h) (fun _ _ => False) := by
    intro j
    induction j with
    | zero =>
      intro c v hj hv hq
      obtain rfl : c = nc := by omega
      refine vX1_isAsleep_7 ⟨S.k, fun _ => ⟨hv, v, rfl, hq, rfl⟩, fun e => absurd ?_ e⟩
      rw [R.nc]
      exact nI_le (Nat.le_refl _) (by omega)
    | succ j ih =>
      intro c v hj hv hq
      have lc := S.lc c (by omega)
      have C := (R.ca c (by omega)).1
      refine vX1_isAsleep_7 ⟨S.k, fun e => absurd e ?_, fun _ => ⟨fun e1 => ?_, fun e1 => ⟨o + 1, S.l, by rw [S.lk], ?_, o + 4 + c, ?_, lc.2, ?_⟩⟩⟩
      · rw [R.nc]
        exact nI_ge (by omega) (by omega)
      · rw [nI_1]
        refine ih (c + 1) 0 (by omega) (Or.inl rfl) ⟨fun z => absurd rfl z, fun z => absurd e1 (hq.mpr ⟨z.1, fun c' hc' => z.2 c' (by omega)⟩)⟩
      · rw [S.lk]; exact vp_in_nI (by omega) (by decide)
      · rw [nI_clamp (by omega)]; exact lc.1
      · rw [nI_1, C.wy]
        have q2 := hq.mp e1
        by_cases w0 : f (16 + 8 * c + 1) = 0
        · rw [if_pos w0]
          refine ih (c + 1) 1 (by omega) (Or.inr rfl) ⟨fun _ => ⟨q2.1, fun c' hc' => ?_⟩, fun _ => by decide⟩
          by_cases y : c' = c
          · rw [y]; exact w0
          · exact q2.2 c' (by omega)
        · rw [if_neg w0]
          exact ih (c + 1) 0 (by omega) (Or.inl rfl) ⟨fun z => absurd rfl z, fun z => absurd (z.2 c (by omega)) w0⟩
  refine Cm.of (by decide) (Nat.le_of_ble_eq_true rfl) (vX1_isAsleep_0 ⟨S.k, _, k_isQuiet R I, ?_⟩)
  rintro v _ ⟨⟨v1, v2⟩, rfl⟩
  exact loop nc 0 v (by omega) v1 (v2.trans ⟨fun q => ⟨q, fun c' z => absurd z (Nat.not_lt_zero c')⟩, fun q => q.1⟩)
end Bank8
