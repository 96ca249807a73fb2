/-! THE CLASS: what is told to a Bank; riders by hand; cars out of service -/
section ToldK
variable {l : Launch} {x : CX} {h : PH} {o nc nf nr m c : Nat} {f t ct rt : Nat → Int32} {tm a b s : Int32}
theorem BR.tl {t' : Nat → Int32} (R : BR h o t ct nc nf nr f) (e3 : tellsT t' 3 = tellsT t 3) (e6 : tellsT t' 6 = tellsT t 6) : BR h o t' ct nc nf nr f := by
  obtain ⟨q0, q1, q2, q3, q4, q5, q6, q7, q8, q9, q10, q11, q12, q13, q14, q15, q16⟩ := R
  refine ⟨q0, q1, q2, q3, q4.trans e3.symm, q5, q6, q7.trans e6.symm, q8, q9, q10, q11, ?_, q13, q14, q15, q16⟩
  unfold peakC at q12 ⊢
  rw [e6]
  exact q12
theorem BR_zero (S : BS h o) (Z : BZ h o) (h3 : tellsT t 3 = 2) (h4 : tellsT t 4 = 0) (h5 : tellsT t 5 = 1) (h6 : tellsT t 6 = 0) : BR h o t ct 0 8 0 (bgF t ct rt 0 0) := by
  obtain ⟨z0, z1, z2, z3, z4, z5, z6, z7, z8, z9, z10, z11, z12⟩ := Z
  have lo : ∀ j, j < 16 → bgF t ct rt 0 0 j = if j = 2 then tellsT t 5 else if j = 3 then tellsT t 4 else if j = 4 then -1 else if j = 6 then t 2 else 0 := fun j hj => bg_lo hj
  have m0 : mm (bgF t ct rt 0 0) = 0 := by
    unfold mm
    rw [lo 7 (by decide)]
    rfl
  refine ⟨S, z0, z1, z2, z3.trans h3.symm, ?_, ?_, z6.trans h6.symm, ?_, ?_, ?_, fun i hi => ?_, ?_, z12, fun c z => absurd z (Nat.not_lt_zero c), fun r z => absurd z (Nat.not_lt_zero r), ?_⟩
  · rw [z4, lo 3 (by decide)]; exact h4.symm
  · rw [z5, lo 2 (by decide)]; exact h5.symm
  · rw [z7, lo 0 (by decide)]; rfl
  · rw [z8, lo 1 (by decide)]; rfl
  · rw [z9, lo 4 (by decide)]; rfl
  · rw [z10, b_0, m0]
    exact ⟨fun z => by simp at z, fun z => absurd z.1 (by omega)⟩
  · rw [z11]
    unfold peakC
    rw [h6]
    rfl
  · show (0 : Int32) = bgF t ct rt 0 0 5
    rw [lo 5 (by decide)]; rfl
theorem k_clear (S : BS h o) : CV l x mX1_clear 0 0 0 [.ref o] h (fun h' => Fr1 o h h' ∧ BZ h' o) :=
  Cm.of (by decide) (Nat.le_of_ble_eq_true rfl) (vX1_clear_0 ⟨S.k, rfl, clr_Fr h o, clr_BZ h o⟩)
theorem ps_Ac {h' : PH} (e : ∀ c, c < nc → hI h' (o + 4 + c) 8 = hI h (o + 4 + c) 8) : ps h' o nc = ps h o nc := ps_eq e nc (Nat.le_refl _)
theorem k_tellRider {d : Nat} (hk : (hK h d).1 = 6) : CV l x mX6_tell 0 0 0 [.ref d, .int tm, .int a, .int b, .int s] h (fun h' => Fr1 d h h' ∧ ∀ k, k < 10 → hI h' d k = if k = 0 then s else if k = 1 then tm else if k = 2 then a else if k = 3 then b else if k = 4 ∨ k = 6 ∨ k = 7 then 0 else -1) := by
  refine Cm.of (by decide) (Nat.le_of_ble_eq_true rfl) (vX6_tell_0 ⟨hk, rfl, ((((((((((Fr1.refl d h).sI _ _).sI _ _).sI _ _).sI _ _).sI _ _).sI _ _).sI _ _).sI _ _).sI _ _).sI _ _, fun k hk => ?_⟩)
  have : k = 0 ∨ k = 1 ∨ k = 2 ∨ k = 3 ∨ k = 4 ∨ k = 5 ∨ k = 6 ∨ k = 7 ∨ k = 8 ∨ k = 9 := by omega
  rcases this with rfl | rfl | rfl | rfl | rfl | rfl | rfl | rfl | rfl | rfl
  all_goals
    simp (disch := decide) only [gI, gIk]
    try rfl
theorem k_addRider (R : BR h o t ct nc nf nr f) (hC : nc ≤ 4) (h24 : nr < 24) (hab : ∀ c, c < nc → ∀ r, r < 32 → bt (f (16 + 8 * c + 3)) r = true → r < nr) : CV l x mX1_addRider 1 0 0 [.ref o, .int tm, .int a, .int b, .int s] h (fun h' => FrB o h h' ∧ BR h' o t ct nc nf (nr + 1) (adF f nr tm a b s)) := by
  have S := R.s
  refine Cm.of (by decide) (Nat.le_of_ble_eq_true rfl) (vX1_addRider_0 ⟨S.k, ?_⟩)
  rw [R.nr]
  refine ⟨fun z => absurd z (nI_ge (b := 24) h24 (by decide)), fun _ => ⟨o + 2, S.p, by rw [S.pk], by rw [S.pk]; exact vp_in_nI h24 (by decide), o + 8 + nr, ?_, (S.pr nr h24).2, _, k_tellRider (S.pr nr h24).2, ?_⟩⟩
  · rw [nI_clamp (by omega)]; exact (S.pr nr h24).1
  rintro h12 ⟨f12, v12⟩
  have S12 := S.fr f12
  have e2 : hI h12 o 2 = nI nr := (f12.hI (by omega) 2).trans R.nr
  rw [e2, nI_1]
  have fo : Fr1 o h12 (sI h12 o 2 (nI (nr + 1))) := (Fr1.refl _ _).sI _ _
  have Sf := S12.fr fo
  have oI : ∀ k, k ≠ 2 → hI (sI h12 o 2 (nI (nr + 1))) o k = hI h o k := fun k hk => (gIk _ _ _ hk).trans (f12.hI (by omega) k)
  have lo : ∀ j, j < 16 → j ≠ 6 → adF f nr tm a b s j = f j := fun j h1 h2 => ad_ne (Or.inl (by omega)) h2
  have em : mm (adF f nr tm a b s) = mm f := by unfold mm; rw [lo 7 (by decide) (by decide)]
  have rr : ∀ r k, r < nr → k < 9 → adF f nr tm a b s (48 + 9 * r + k) = f (48 + 9 * r + k) := fun r k hr hk => ad_ne (Or.inl (by omega)) (by omega)
  have hi : ∀ i, adF f nr tm a b s (264 + i) = f (264 + i) := fun i => ad_ne (Or.inr (by omega)) (by omega)
  have ac : ∀ b', b' ≠ o → b' ≠ o + 8 + nr → Ac b' h (sI h12 o 2 (nI (nr + 1))) := fun b' h1 h2 => (f12.ac h2).trans (fo.ac h1)
  refine ⟨S12.k, rfl, (f12.frb (by omega) (by omega)).trans (fo.frb (by omega) (by omega)), Sf, ?_, ?_, gI _ _ _ _, ?_, ?_, ?_, ?_, ?_, ?_, ?_, ?_, ?_, ?_, fun c hc => ?_, fun r hr => ?_, ?_⟩
  · rw [oI 0 (by decide)]; exact R.fl
  · rw [oI 1 (by decide)]; exact R.nc
  · rw [oI 3 (by decide)]; exact R.dw
  · rw [oI 4 (by decide), lo 3 (by decide) (by decide)]; exact R.la
  · rw [oI 5 (by decide), lo 2 (by decide) (by decide)]; exact R.po
  · rw [oI 6 (by decide)]; exact R.pk
  · rw [oI 7 (by decide), lo 0 (by decide) (by decide)]; exact R.ti
  · rw [oI 8 (by decide), lo 1 (by decide) (by decide)]; exact R.bu
  · rw [oI 9 (by decide), lo 4 (by decide) (by decide)]; exact R.tu
  · rw [oI 10 (by decide)]
    exact R.ar.same fun j h1 h2 => lo j (by omega) (by omega)
  · rw [oI 11 (by decide), em, peak_same (by omega) (fun j h1 h2 => lo j (by omega) (by omega))]; exact R.ru
  · rw [oI 12 (by decide), R.fi]
    unfold cnt
    rw [fb_ct_succ, if_neg (by rw [show adF f nr tm a b s (48 + 9 * nr + 4) = 0 from ad_at (by decide)]; decide), Nat.add_zero]
    congr 1
    exact fb_ct_cong fun r hr => by rw [rr r 4 hr (by decide)]
  · obtain ⟨⟨q1, q2, q3, q4, q5, q6, q7, q8, q9, q10, q11, q12⟩, G⟩ := (R.ca c hc).ac (ac (o + 4 + c) (by omega) (by omega))
    have cc : ∀ k, k < 8 → adF f nr tm a b s (16 + 8 * c + k) = f (16 + 8 * c + k) := fun k hk => ad_ne (Or.inl (by omega)) (by omega)
    refine ⟨⟨q1, q2, ?_, ?_, ?_, ?_, ?_, ?_, ?_, ?_, ?_, fun i hi' => ?_⟩, fun i hi' hz => ?_⟩
    · rw [cc 6 (by decide)]; exact q3
    · rw [cc 7 (by decide)]; exact q4
    · rw [show adF f nr tm a b s (16 + 8 * c) = f (16 + 8 * c) from cc 0 (by decide)]; exact q5
    · rw [cc 1 (by decide)]; exact q6
    · rw [cc 2 (by decide)]; exact q7
    · rw [cc 4 (by decide)]; exact q8
    · rw [cc 5 (by decide)]; exact q9
    · rw [cc 3 (by decide)]; exact q10
    · rw [cc 3 (by decide)]; exact q11
    · rw [hi]; exact q12 i hi'
    · rw [G i hi' hz, cc 3 (by decide)]
      constructor
      · rintro ⟨r, y1, y2, j, y3, y4⟩
        exact ⟨r, by omega, y2, j, by rw [rr r 3 y1 (by decide)]; exact y3, y4⟩
      · rintro ⟨r, y1, y2, j, y3, y4⟩
        have y5 := hab c hc r (by omega) y2
        rw [rr r 3 y5 (by decide)] at y3
        exact ⟨r, y5, y2, j, y3, y4⟩
  · rcases Nat.lt_or_ge r nr with y | y
    · exact ((R.ri r y).ac (ac (o + 8 + r) (by omega) (by omega))).row fun k hk => rr r k y hk
    · obtain rfl : r = nr := by omega
      have vv : ∀ k, k < 10 → hI (sI h12 o 2 (nI (r + 1))) (o + 8 + r) k = if k = 0 then s else if k = 1 then tm else if k = 2 then a else if k = 3 then b else if k = 4 ∨ k = 6 ∨ k = 7 then 0 else -1 := fun k hk => (gIa _ _ _ _ (by omega)).trans (v12 k hk)
      have fv : ∀ k, k < 9 → adF f r tm a b s (48 + 9 * r + k) = adV tm a b s k := fun k hk => ad_at hk
      refine ⟨?_, ?_, ?_, ?_, ?_, ?_, fun z => absurd ?_ (show ¬ (0 : Int32) = 1 by decide), ?_, ?_, ?_⟩
      · rw [vv 0 (by decide), show adF f r tm a b s (48 + 9 * r) = s from fv 0 (by decide)]; rfl
      · rw [vv 1 (by decide), fv 1 (by decide)]; rfl
      · rw [vv 2 (by decide), fv 2 (by decide)]; rfl
      · rw [vv 3 (by decide), fv 3 (by decide)]; rfl
      · rw [vv 4 (by decide), fv 4 (by decide)]; rfl
      · rw [vv 5 (by decide), fv 5 (by decide)]; rfl
      · rw [fv 4 (by decide)] at z; exact z
      · rw [vv 7 (by decide), fv 6 (by decide)]; rfl
      · rw [vv 8 (by decide), fv 8 (by decide)]; rfl
      · rw [vv 9 (by decide), fv 7 (by decide)]; rfl
  · rw [ps_Ac (fun c hc => (ac (o + 4 + c) (by omega) (by omega)).hI 8), lo 5 (by decide) (by decide)]
    exact R.pa
theorem k_addByHand {A B : Nat} (R : BR h o t ct nc nf nr f) (W : Row ct nc nf nr f) (h24 : nr < 24) (hs : s = 1 ∨ s = 2) (ha : a = nI A) (hA : A < nf) (hb : b = nI B) (hB : B < nf) : CI l x mX1_addByHand 2 0 0 [.ref o, .int a, .int b, .int s] h (fun v h' => v = nI nr ∧ FrB o h h' ∧ BR h' o t ct nc nf (nr + 1) (cwF f nr a b s)) := by
  obtain ⟨⟨m, I⟩, _, _⟩ := W
  refine Cm.of (by decide) (Nat.le_of_ble_eq_true rfl) (vX1_addByHand_0 ⟨R.s.k, ?_⟩)
  rw [R.ti]
  refine ⟨_, k_addRider R I.hc h24 (fun c hc r hr hb => (I.abo c hc r hr hb).1), ?_⟩
  rintro h4 ⟨f4, R4⟩
  have e2 : hI h4 o 2 - 1 = nI nr := by rw [R4.nr, nI_pred]
  refine ⟨R4.s.k, o + 2, R4.s.p, by rw [R4.s.pk], by rw [e2, R4.s.pk]; exact vp_in_nI h24 (by decide), o + 8 + nr, by rw [e2, nI_clamp (by omega)]; exact (R4.s.pr nr h24).1, _, k_arrive R4 (Inv_ad I h24 hs ha hA hb hB) (by omega) (ad_at (by decide)), ?_⟩
  rintro h14 ⟨f14, R14⟩
  exact ⟨R14.s.k, _, rfl, by rw [R14.nr, nI_pred], f4.trans f14, R14⟩
theorem em_comm (hc : c < 4) (h24 : nr ≤ 24) (hj : ∀ j, 312 ≤ j → True) {j : Nat} (hj2 : j < 48 ∨ (∃ r k, r < nr ∧ k < 9 ∧ j = 48 + 9 * r + k) ∨ 264 ≤ j) : emptiesC (up f (16 + 8 * c + 4) 0) c nr j = up (emptiesC f c nr) (16 + 8 * c + 4) 0 j := by
  rcases hj2 with z | ⟨r, k, z1, z2, rfl⟩ | z
  · by_cases e3 : j = 16 + 8 * c + 3
    · rw [e3, em_ab, up_ne (by omega), em_ab]
    · rw [em_lo z e3]
      by_cases e4 : j = 16 + 8 * c + 4
      · rw [e4, up_eq, up_eq]
      · rw [up_ne e4, up_ne e4, em_lo z e3]
  · rw [em_r hc z2 z1 h24, up_ne (show 48 + 9 * r + k ≠ 16 + 8 * c + 4 by omega), up_ne (show 16 + 8 * c + 3 ≠ 16 + 8 * c + 4 by omega), up_ne (show 48 + 9 * r + k ≠ 16 + 8 * c + 4 by omega), up_ne (show 16 + 8 * c ≠ 16 + 8 * c + 4 by omega), em_r hc z2 z1 h24]
    have e : emV (up f (16 + 8 * c + 4) 0) r (f (16 + 8 * c)) k = emV f r (f (16 + 8 * c)) k := by
      unfold emV
      rw [up_ne (show 48 + 9 * r + 3 ≠ 16 + 8 * c + 4 by omega), up_ne (show 48 + 9 * r + k ≠ 16 + 8 * c + 4 by omega), up_ne (show 0 ≠ 16 + 8 * c + 4 by omega)]
    rw [e]
  · rw [em_hi hc z h24, up_ne (by omega), up_ne (by omega), em_hi hc z h24]
/-- a row may be changed where nobody looks -/
theorem BR.rowE {g : Nat → Int32} (R : BR h o t ct nc nf nr f) (hC : nc ≤ 4) (h24 : nr ≤ 24) (e : ∀ j, j < 312 → g j = f j) : BR h o t ct nc nf nr g := by
  obtain ⟨q0, q1, q2, q3, q4, q5, q6, q7, q8, q9, q10, q11, q12, q13, q14, q15, q16⟩ := R
  have em : mm g = mm f := by unfold mm; rw [e 7 (by decide)]
  refine ⟨q0, q1, q2, q3, q4, q5.trans (e 3 (by decide)).symm, q6.trans (e 2 (by decide)).symm, q7, q8.trans (e 0 (by decide)).symm, q9.trans (e 1 (by decide)).symm, q10.trans (e 4 (by decide)).symm, q11.same fun j h1 h2 => e j (by omega), ?_, ?_, fun c hc => ?_, fun r hr => (q15 r hr).row fun k hk => e _ (by omega), q16.trans (e 5 (by decide)).symm⟩
  · rw [q12, em, peak_same (by omega) (fun j h1 h2 => e j (by omega))]
  · rw [q13, cnt_same (fun r hr => e _ (by omega))]
  · refine (q14 c hc).oth (q14 c hc).1.ck (fun _ => rfl) (fun _ => rfl) rfl (fun k hk => e _ (by omega)) (fun r hr => e _ (by omega)) fun i hi => ?_
    rw [(q14 c hc).1.ca i hi]
    constructor
    · rintro ⟨y1, y2⟩; exact ⟨y1, (e _ (by omega)).trans y2⟩
    · rintro ⟨y1, y2⟩; exact ⟨y1, (e _ (by omega)).symm.trans y2⟩
theorem k_putOutOfService (R : BR h o t ct nc nf nr f) (I : Inv ct nc nf nr m f) (hc : c < nc) : CV l x mX1_putOutOfService 2 0 0 [.ref o, .int (nI c)] h (fun h' => FrB o h h' ∧ BR h' o t ct nc nf nr (otF f c nr)) := by
  have hC := I.hc
  have h24 := I.hr
  have S := R.s
  refine Cm.of (by decide) (Nat.le_of_ble_eq_true rfl) (vX1_putOutOfService_0 ⟨S.k, o + 1, S.l, by rw [S.lk], by rw [S.lk]; exact vp_in_nI (by omega) (by decide), o + 4 + c, by rw [nI_clamp (by omega)]; exact (S.lc c (by omega)).1, _, k_putOut R I hc, ?_⟩)
  rintro h10 ⟨f10, R10⟩
  have S10 := R10.s
  have fr : Fr1 (o + 4 + c) h10 (sI (sL (sI (sI h10 (o + 4 + c) 5 0) (o + 4 + c) 4 0) (o + 4 + c) 12 0) (o + 4 + c) 6 0) := ((((Fr1.refl _ _).sI _ _).sI _ _).sL _ _).sI _ _
  generalize hh : sI (sL (sI (sI h10 (o + 4 + c) 5 0) (o + 4 + c) 4 0) (o + 4 + c) 12 0) (o + 4 + c) 6 0 = h' at fr
  have S' := S10.fr fr
  have vI : ∀ k, hI h' (o + 4 + c) k = if k = 6 then 0 else if k = 4 then 0 else if k = 5 then 0 else hI h10 (o + 4 + c) k := fun k => by
    rw [← hh]
    by_cases e6 : k = 6
    · rw [e6, gI]; rfl
    · rw [gIk _ _ _ e6, hI_sL, if_neg e6]
      by_cases e4 : k = 4
      · rw [e4, gI]; rfl
      · rw [gIk _ _ _ e4, if_neg e4]
        by_cases e5 : k = 5
        · rw [e5, gI]; rfl
        · rw [gIk _ _ _ e5, if_neg e5]
  have v12 : hL h' (o + 4 + c) 12 = 0 := by rw [← hh, hL_sI]; exact gL _ _ _ _
  have v11 : hL h' (o + 4 + c) 11 = hL h10 (o + 4 + c) 11 := by rw [← hh, hL_sI, gLk _ _ _ (by decide), hL_sI, hL_sI]
  have v7 : hF h' (o + 4 + c) 7 = hF h10 (o + 4 + c) 7 := by rw [← hh, hF_sI, hF_sL, hF_sI, hF_sI]
  generalize hg : emptiesC f c nr = g at R10
  -- the row, place by place
  have oe : ∀ j, j < 48 ∨ (∃ r k, r < nr ∧ k < 9 ∧ j = 48 + 9 * r + k) → otF f c nr j = if j = 16 + 8 * c + 1 ∨ j = 16 + 8 * c + 2 ∨ j = 16 + 8 * c + 4 then 0 else g j := fun j hj => by
    have hlt : j < 264 := by rcases hj with z | ⟨r, k, z1, z2, rfl⟩ <;> omega
    have e0 : otF f c nr j = otG f c nr j := by
      unfold otF otK
      rw [if_neg (by omega)]
    rw [e0]
    unfold otG
    by_cases e1 : j = 16 + 8 * c + 1
    · rw [e1, up_eq, if_pos (Or.inl rfl)]
    · rw [up_ne e1]
      by_cases e2 : j = 16 + 8 * c + 2
      · rw [e2, up_eq, if_pos (Or.inr (Or.inl rfl))]
      · rw [up_ne e2, em_comm (by omega) h24 (fun _ _ => trivial) (hj.elim Or.inl fun z => Or.inr (Or.inl z)), hg]
        by_cases e4 : j = 16 + 8 * c + 4
        · rw [e4, up_eq, if_pos (Or.inr (Or.inr rfl))]
        · rw [up_ne e4, if_neg (fun z => z.elim e1 fun y => y.elim e2 e4)]
  have ok : ∀ i, otF f c nr (264 + i) = if i < 48 ∧ g (264 + i) = nI c + 1 then 0 else g (264 + i) := fun i => by
    have e0 : otG f c nr (264 + i) = g (264 + i) := by
      unfold otG
      rw [up_ne (by omega), up_ne (by omega), em_comm (by omega) h24 (fun _ _ => trivial) (Or.inr (Or.inr (by omega))), hg, up_ne (by omega)]
    unfold otF otK
    rw [e0]
    by_cases z : i < 48 ∧ g (264 + i) = nI c + 1
    · rw [if_pos z, if_pos ⟨by omega, by omega, z.2⟩]
    · rw [if_neg z, if_neg (fun y => z ⟨by omega, y.2.2⟩)]
  have cc : ∀ c' k, c' < nc → k < 8 → otF f c nr (16 + 8 * c' + k) = if c' = c ∧ (k = 1 ∨ k = 2 ∨ k = 4) then 0 else g (16 + 8 * c' + k) := fun c' k hc' hk => by
    rw [oe _ (Or.inl (by omega))]
    by_cases z : c' = c ∧ (k = 1 ∨ k = 2 ∨ k = 4)
    · rw [if_pos z, if_pos (by omega)]
    · rw [if_neg z, if_neg (by omega)]
  have rr : ∀ r k, r < nr → k < 9 → otF f c nr (48 + 9 * r + k) = g (48 + 9 * r + k) := fun r k hr hk => by
    rw [oe _ (Or.inr ⟨r, k, hr, hk, rfl⟩), if_neg (by omega)]
  refine ⟨S10.lc c (by omega) |>.2, ?_⟩
  refine ⟨rfl, f10.trans (fr.frb (by omega) (by omega)), R10.mk' S' (fun k _ => fr.hI (by omega) k) ?_ (fun j h1 h5 => ?_) (fun c' hc' => ?_) (fun r hr => ((R10.ri r hr).ac (fr.ac (by omega))).row fun k hk => rr r k hr hk) ?_⟩
  · rw [fr.hI (by omega), R10.fi, cnt_same (fun r hr => rr r 4 hr (by decide))]
  · rw [oe j (Or.inl (by omega)), if_neg (by omega)]
  · by_cases e : c' = c
    · subst e
      obtain ⟨⟨q1, q2, q3, q4, q5, q6, q7, q8, q9, q10, q11, q12⟩, G⟩ := R10.ca c' hc'
      refine ⟨⟨(S'.lc c' (by omega)).2, ?_, ?_, ?_, ?_, ?_, ?_, ?_, ?_, ?_, ?_, fun i hi => ?_⟩, G.same v11 (by rw [cc c' 3 hc' (by decide)]; rw [if_neg (by omega)]) (fun r hr => rr r 3 hr (by decide))⟩
      · rw [vI]; exact q2
      · rw [vI, cc c' 6 hc' (by decide), if_neg (show ¬ (c' = c' ∧ (6 = 1 ∨ 6 = 2 ∨ 6 = 4)) by omega)]; exact q3
      · rw [vI, cc c' 7 hc' (by decide), if_neg (show ¬ (c' = c' ∧ (7 = 1 ∨ 7 = 2 ∨ 7 = 4)) by omega)]; exact q4
      · rw [vI, show otF f c' nr (16 + 8 * c') = _ from cc c' 0 hc' (by decide), if_neg (show ¬ (c' = c' ∧ (0 = 1 ∨ 0 = 2 ∨ 0 = 4)) by omega)]; exact q5
      · rw [vI, cc c' 1 hc' (by decide), if_pos (show c' = c' ∧ (1 = 1 ∨ 1 = 2 ∨ 1 = 4) by omega)]; rfl
      · rw [vI, cc c' 2 hc' (by decide), if_pos (show c' = c' ∧ (2 = 1 ∨ 2 = 2 ∨ 2 = 4) by omega)]; rfl
      · rw [vI, cc c' 4 hc' (by decide), if_pos (show c' = c' ∧ (4 = 1 ∨ 4 = 2 ∨ 4 = 4) by omega)]; rfl
      · rw [v7, cc c' 5 hc' (by decide), if_neg (show ¬ (c' = c' ∧ (5 = 1 ∨ 5 = 2 ∨ 5 = 4)) by omega)]; exact q9
      · rw [vI, cc c' 3 hc' (by decide), if_neg (show ¬ (c' = c' ∧ (3 = 1 ∨ 3 = 2 ∨ 3 = 4)) by omega)]; exact q10
      · rw [vI, cc c' 3 hc' (by decide), if_neg (show ¬ (c' = c' ∧ (3 = 1 ∨ 3 = 2 ∨ 3 = 4)) by omega)]; exact q11
      · rw [v12, bL_0, ok i]
        refine ⟨fun z => by simp at z, fun z => ?_⟩
        by_cases y : i < 48 ∧ g (264 + i) = nI c' + 1
        · rw [if_pos y] at z
          exact absurd z.2 (nz1 c' (by omega))
        · rw [if_neg y] at z
          exact absurd z y
    · have ac := fr.ac (b := o + 4 + c') (by omega)
      refine (R10.ca c' hc').oth (S'.lc c' (by omega)).2 (fun k => (ac.2 k).1) (fun k => (ac.2 k).2.2.1) (ac.2 11).2.1 (fun k hk => ?_) (fun r hr => rr r 3 hr (by decide)) fun i hi => ?_
      · rw [cc c' k hc' hk, if_neg (fun z => e z.1)]
      · rw [(ac.2 12).2.1, (R10.ca c' hc').1.ca i hi, ok i]
        by_cases y : i < 48 ∧ g (264 + i) = nI c + 1
        · rw [if_pos y]
          refine ⟨fun z => absurd (y.2.symm.trans z.2) (fun q => ?_), fun z => absurd z.2 (nz1 c' (by omega))⟩
          rw [nI_1, nI_1, nI_eq (by omega) (by omega)] at q
          omega
        · rw [if_neg y]
  · rw [ps_Ac (fun c' hc' => ?_), R10.pa, oe 5 (Or.inl (by decide)), if_neg (by omega)]
    by_cases e : c' = c
    · subst e; rw [vI]; rfl
    · exact fr.hI (by omega) 8
end ToldK
