/-! THE CLASS: what a call costs; which calls wait, who holds one, whether it wants a car -/
section Places
variable {c nc nf nr m : Nat} {f g t ct : Nat → Int32}
theorem pl_opens {fl j : Nat} (hc : c < 4) (hj : j < 48) (h1 : j ≠ 16 + 8 * c + 1) (h2 : j ≠ 16 + 8 * c + 2) (h3 : j ≠ 16 + 8 * c + 3) (h5 : j ≠ 16 + 8 * c + 5) : opensC f t ct nr nf c fl j = f j := by
  unfold opensC opEnd worksC opH
  rw [up_ne h5, up_ne h2, opX_ab (by omega), opB_lo hc hj h3, up_ne h1, opG_lo hc hj h3]
theorem pl_moves {n j : Nat} {y : Int32} (h0 : j ≠ 16 + 8 * c) (h5 : j ≠ 16 + 8 * c + 5) : movesC f c n y j = f j := by
  unfold movesC worksC
  rw [up_ne h0, up_ne h5]
theorem pl_goes {fl n k j : Nat} (hq : j ≠ 5) (h0 : j ≠ 16 + 8 * c) (h1 : j ≠ 16 + 8 * c + 1) (h5 : j ≠ 16 + 8 * c + 5) : goesC f t nr nf k c fl n j = f j := by
  unfold goesC goesD
  split
  · split
    · rw [up_ne h1]
    · rw [pl_moves h0 h5, up_ne h1]
  · split
    · rw [pl_moves h0 h5, up_ne h1]
    · split
      · rw [pl_moves h0 h5, up_ne h1]
      · rw [pl_moves h0 h5, up_ne hq, up_ne h1]
theorem pl_stG {j : Nat} (h2 : j ≠ 16 + 8 * c + 2) : stepG f c j = f j := by
  unfold stepG
  split
  · rfl
  · rw [up_ne h2]
theorem pl_stR {k j : Nat} (hc : c < 4) (hj : j < 48) (hq : j ≠ 5) (h0 : j ≠ 16 + 8 * c) (h1 : j ≠ 16 + 8 * c + 1) (h2 : j ≠ 16 + 8 * c + 2) (h3 : j ≠ 16 + 8 * c + 3) (h5 : j ≠ 16 + 8 * c + 5) : stR t ct nr nf k c f j = f j := by
  unfold stR stepR
  split
  · split
    · rw [pl_goes hq h0 h1 h5, pl_stG h2]
    · rw [pl_opens hc hj h1 h2 h3 h5, pl_stG h2]
  · rw [pl_stG h2]
theorem pk_eq' {g' : Nat → Int32} : ∀ n, n ≤ 8 → (∀ j, 8 ≤ j → j < 16 → g' j = g j) → pkA g' n = pkA g n
  | 0, _, _ => rfl
  | n + 1, h, e => by
    unfold pkA
    rw [pk_eq' n (by omega) e, e (8 + n) (by omega) (by omega)]
theorem pa_stR {k : Nat} (hc : c < 4) : parksC (stR t ct nr nf m c g) t (min 8 k) c = parksC g t (min 8 k) c := by
  unfold parksC peakC
  rw [pk_eq' _ (by omega) (fun j h1 h2 => lo_stR h2 (by omega)), pl_stR hc (by omega) (by omega) (by omega) (by omega) (by omega) (by omega) (by omega)]
end Places
theorem an2 : ∀ k, k < 48 → (if (nI k &&& 2) = 0 then 1 else (-1) : Int32) = (if k % 4 < 2 then 1 else -1) := by decide +kernel
theorem an1 : ∀ k, k < 48 → (if (nI k &&& 1) = 0 then 1 else 2 : Int32) = nI (k % 2 + 1) := by decide +kernel
/-- the parts of a call's number -/
theorem kix_p {fl s k : Nat} {z : Int32} (hz : z = 1 ∨ z = -1) (h1 : 1 ≤ s) (h2 : s ≤ 2) (hk : kix fl z s = 264 + k) : k / 4 = fl ∧ k % 2 + 1 = s ∧ z = (if k % 4 < 2 then 1 else -1) := by
  unfold kix at hk
  rcases hz with rfl | rfl
  · rw [if_neg (by decide)] at hk
    exact ⟨by omega, by omega, by rw [if_pos (by omega)]⟩
  · rw [if_pos (by decide)] at hk
    exact ⟨by omega, by omega, by rw [if_neg (by omega)]⟩
section Bank2
variable {l : Launch} {x : CX} {h : PH} {o a c nc nf nr m : Nat} {f g t ct : Nat → Int32}
theorem nz1 (c : Nat) (hc : c < 4) : ¬ (0 : Int32) = nI c + 1 := fun q => by
  rw [nI_1] at q
  exact absurd ((nI_eq (a := 0) (b := c + 1) (by omega) (by omega)).mp q) (by omega)
theorem k_costOf {fl s k : Nat} {z : Int32} (hT : Tok t nf) (R : BR h o t ct nc nf nr f) (I : Inv ct nc nf nr m f) (hc : c < nc) (hfl : fl < nf) (h1 : 1 ≤ s) (h2 : s ≤ 2) (hz : z = 1 ∨ z = -1) (hk : kix fl z s = 264 + k) (htk : ¬ takesC ct c (nI s) = 0) : CI l x mX1_costOf 2 0 0 [.ref o, .ref (o + 4 + c), .int (nI k)] h (fun v h' => v = costC t ct nr nf m c fl s z f ∧ Fr1 (o + 3) h h') := by
  have hC := I.hc
  have hR := I.hr
  have hF12 := I.hF
  have hk48 : k < 48 := by
    have := kix_lt (y := z) (by omega : fl < 12) h1 h2
    omega
  obtain ⟨p1, p2, p3⟩ := kix_p hz h1 h2 hk
  have e4 : nI k / 4 = nI fl := by
    show nI k / nI 4 = _
    rw [pk_div (by omega) (by omega) (by omega), p1]
  have Ig := I.cst (w := z) hc hfl h1 h2 htk
  have n11 : hI h o 11 = peakC f t (min 8 m) := by rw [R.ru, I.i_mm]
  have hm1 : hI h (o + 4 + c) 1 = f (16 + 8 * c + 6) := (R.ca c hc).1.hm
  have loop : ∀ (j i : Nat) (g : Nat → Int32) (hi : PH), i + j = 60 → Inv ct nc nf nr m g → Fr1 (o + 3) h hi → CO hi (o + 3) ct nr g c → DR f g c nr (hI hi (o + 3) 13) (hI hi (o + 3) 14) → parksC g t (min 8 m) c = parksC f t (min 8 m) c → Gm l x mX1_costOf 2 45 [(0, .ref o), (1, .ref (o + 4 + c)), (2, .int (nI k)), (3, .int (parksC f t (min 8 m) c)), (4, .int z), (5, .int (nI i))] [] hi 0 0 (hN h) (fun v h' => ∃ r, v = some (.int r) ∧ r = coA t ct nr nf m c (nI fl) z j i g ∧ Fr1 (o + 3) h h') (fun _ _ => False) := by
    intro j
    induction j with
    | zero =>
      intro i g hi hj Ig fr C D ep
      refine vX1_costOf_45 ⟨fun _ => ⟨_, rfl, rfl, fr⟩, fun e => absurd (nI_le (a := 60) (by omega) (by omega)) e⟩
    | succ j ih =>
      intro i g hi hj Ig fr C D ep
      have S := R.s.fr fr
      have P := R.po'.fr fr (by omega) (by omega) hR
      have hd : hI hi o 3 = tellsT t 3 := (fr.hI (by omega) 3).trans R.dw
      refine vX1_costOf_45 ⟨fun e => absurd e (nI_ge (b := 60) (by omega) (by decide)), fun _ => ⟨S.k, o + 3, S.t, S.tk, ?_⟩⟩
      rw [← ep]
      refine ⟨_, k_move hT C Ig hc P hd D (by omega) (by omega), ?_⟩
      rintro v h8 ⟨q1, q2, q3, q4, q5, q6, q7⟩
      subst q1
      have fr8 := fr.trans q2
      have S8 := R.s.fr fr8
      have next : coA t ct nr nf m c (nI fl) z (j + 1) i g = coA t ct nr nf m c (nI fl) z j (i + 1) (stR t ct nr nf m c g) → Gm l x mX1_costOf 2 45 [(0, .ref o), (1, .ref (o + 4 + c)), (2, .int (nI k)), (3, .int (parksC g t (min 8 m) c)), (4, .int z), (5, .int (nI i + 1))] [] h8 0 0 (hN h) (fun v h' => ∃ r, v = some (.int r) ∧ r = coA t ct nr nf m c (nI fl) z (j + 1) i g ∧ Fr1 (o + 3) h h') (fun _ _ => False) := by
        intro e
        rw [e, nI_1, ep]
        exact ih (i + 1) _ h8 (by omega) (Ig.i_stR hT hc) fr8 q3 q4 ((pa_stR (by omega)).trans ep)
      refine ⟨fun e1 => next (if_pos e1), fun e1 => ⟨S8.k, o + 3, S8.t, S8.tk, ?_⟩⟩
      rw [q3.1.fl, q3.1.wy, e4]
      refine ⟨fun e2 => next ((if_neg e1).trans (if_neg e2)), fun e2 => ⟨fun e3 => next ((if_neg e1).trans ((if_pos e2).trans (if_neg e3))), fun e3 => ⟨_, rfl, ?_, fr8⟩⟩⟩
      exact ((if_neg e1).trans ((if_pos e2).trans (if_pos e3))).symm
  have S := R.s
  refine Cm.of (by decide) (Nat.le_of_ble_eq_true rfl) (vX1_costOf_0 ⟨S.k, o + 3, S.t, S.tk, _, k_copyCar (R.ca c hc) (I.cars c hc).inn S.tk, ?_⟩)
  rintro h7 ⟨fr7, C7, _, e13, e14⟩
  have S7 := S.fr fr7
  have fr8 : Fr1 (o + 3) h (sL h7 (o + 3) 12 ((hL h7 (o + 3) 12) ||| (lsh 1 (nI k)))) := fr7.sL _ _
  have S8 := S.fr fr8
  refine ⟨S7.k, o + 3, S7.t, S7.tk, _, k_restOf (g := f) (t := t) (m := m) (c := c) S8.k (S8.lc c (by omega)).2 ((fr8.hI (by omega) 11).trans n11) ((fr8.hI (by omega) 1).trans hm1) rfl, ?_⟩
  rintro _ _ ⟨rfl, rfl⟩
  rw [an2 k hk48, ← p3]
  have glo : ∀ j, j < 264 → up (kpA f c 312) (kix fl z s) (nI c + 1) j = f j := fun j hj => by
    rw [up_ne (by omega)]
    exact if_neg (fun q => by omega)
  refine loop 60 0 _ _ rfl Ig fr8 ?_ ?_ ?_
  · obtain ⟨⟨q1, q2, q3, q4, q5, q6, q7, q8, q9, q10, q11, q12⟩, G⟩ := C7
    refine ⟨?_, ?_⟩
    · unfold CB
      rw [glo _ (by omega), glo _ (by omega), glo _ (by omega), glo _ (by omega), glo _ (by omega), glo _ (by omega), glo _ (by omega), glo _ (by omega)]
      refine ⟨q1, q2, q3, q4, q5, q6, q7, q8, q9, q10, q11, fun i hi => ?_⟩
      rw [gL, bL_set _ k (by omega) hi]
      by_cases e : i = k
      · rw [if_pos e, e, ← hk, up_eq]
        exact ⟨fun _ => ⟨hk48, rfl⟩, fun _ => rfl⟩
      · rw [if_neg e, q12 i hi, up_ne (by omega)]
        unfold kpA
        constructor
        · rintro ⟨z1, z2⟩
          rw [if_pos ⟨by omega, by omega⟩, if_pos z2]
          exact ⟨z1, z2⟩
        · rintro ⟨z1, z2⟩
          rw [if_pos ⟨by omega, by omega⟩] at z2
          split at z2
          · exact ⟨z1, z2⟩
          · exact absurd z2 (nz1 c (by omega))
    · exact CG.same (h := h7) G rfl (glo _ (by omega)) (fun r hr => glo _ (by omega))
  · rw [hI_sL, hI_sL, e13, e14]
    refine ⟨glo 0 (by omega), fun r hr k hk => ?_, fun r _ q => ?_, fun r _ q => ?_⟩
    · rw [glo _ (by omega), b_0]
      unfold rd
      split
      · rename_i e; rw [e]; rfl
      · split
        · rename_i e; rw [e]; rfl
        · split
          · rename_i e; rw [e]; rfl
          · split
            · rename_i e; rw [e]; rfl
            · rfl
    · rw [b_0] at q; cases q
    · rw [b_0] at q; cases q
  · unfold parksC peakC
    rw [pk_eq' _ (by omega) (fun j h1 h2 => glo j (by omega)), glo _ (by omega)]
/-- a call waits -/
def wts (f : Nat → Int32) (nr k : Nat) : Prop := ∃ r, r < nr ∧ f (48 + 9 * r + 4) = 1 ∧ ∃ w s, f (48 + 9 * r + 5) = nI w ∧ w < 12 ∧ f (48 + 9 * r) = nI s ∧ 1 ≤ s ∧ s ≤ 2 ∧ kix w (wayR f r) s = 264 + k
theorem way_pm {r : Nat} : wayR f r = 1 ∨ wayR f r = -1 := by
  unfold wayR
  split
  · exact Or.inr rfl
  · exact Or.inl rfl
theorem icA_iff {fl wy so : Int32} : ∀ n, ¬ icA f fl wy so n = 0 ↔ ∃ r, r < n ∧ f (48 + 9 * r + 4) = 1 ∧ f (48 + 9 * r + 5) = fl ∧ wayR f r = wy ∧ f (48 + 9 * r) = so
  | 0 => ⟨fun q => absurd rfl q, fun ⟨r, h, _⟩ => absurd h (Nat.not_lt_zero r)⟩
  | n + 1 => by
    have ih := icA_iff (fl := fl) (wy := wy) (so := so) n
    unfold icA
    by_cases e : icA f fl wy so n = 0
    · rw [if_pos e]
      by_cases q : f (48 + 9 * n + 4) = 1 ∧ f (48 + 9 * n + 5) = fl ∧ wayR f n = wy ∧ f (48 + 9 * n) = so
      · rw [if_pos q]
        exact ⟨fun _ => ⟨n, by omega, q⟩, fun _ => by decide⟩
      · rw [if_neg q]
        refine ⟨fun z => absurd rfl z, ?_⟩
        rintro ⟨r, z1, z2⟩
        have : r ≠ n := fun y => q (y ▸ z2)
        exact absurd e (ih.mpr ⟨r, by omega, z2⟩)
    · rw [if_neg e]
      obtain ⟨r, z1, z2⟩ := ih.mp e
      exact ⟨fun _ => ⟨r, by omega, z2⟩, fun _ => by decide⟩
theorem wts_ic {fl s k : Nat} {z : Int32} (hz : z = 1 ∨ z = -1) (h1 : 1 ≤ s) (h2 : s ≤ 2) (hfl : fl < 12) (hk : kix fl z s = 264 + k) : wts f nr k ↔ ¬ icA f (nI fl) z (nI s) nr = 0 := by
  rw [icA_iff]
  obtain ⟨p1, p2, p3⟩ := kix_p hz h1 h2 hk
  constructor
  · rintro ⟨r, a1, a2, w, s', a3, a4, a5, a6, a7, a8⟩
    obtain ⟨b1, b2, b3⟩ := kix_p way_pm a6 a7 a8
    refine ⟨r, a1, a2, by rw [a3, ← p1, b1], by rw [b3, p3], by rw [a5, ← p2, b2]⟩
  · rintro ⟨r, a1, a2, a3, a4, a5⟩
    exact ⟨r, a1, a2, fl, s, a3, hfl, a5, h1, h2, by rw [a4]; exact hk⟩
theorem k_callsWaiting (NX : NestOk x RX1 140 yX7_callNumber "LiftBank") (P : PO h o nr f) (I : Inv ct nc nf nr m f) : CJ l x mX1_callsWaiting 1 0 0 [.ref o] h (fun v h' => (∀ i, i < 64 → (bL v i = true ↔ wts f nr i)) ∧ h' = h) := by
  have hR := I.hr
  have hF12 := I.hF
  have loop : ∀ (j r : Nat) (v : Int64), r + j = nr → (∀ i, i < 64 → (bL v i = true ↔ wts f r i)) → Gm l x mX1_callsWaiting 1 4 [(0, .ref o), (1, .long v), (3, .int (nI r))] [] h 0 0 (hN h) (fun v h' => ∃ r, v = some (.long r) ∧ (∀ i, i < 64 → (bL r i = true ↔ wts f nr i)) ∧ h' = h) (fun _ _ => False) := by
    intro j
    induction j with
    | zero =>
      intro r v hj hv
      obtain rfl : r = nr := by omega
      refine vX1_callsWaiting_4 ⟨P.1.k, fun _ => ⟨_, rfl, hv, rfl⟩, fun e => absurd ?_ e⟩
      rw [P.2.1]
      exact nI_le (Nat.le_refl _) (by omega)
    | succ j ih =>
      intro r v hj hv
      have pr := P.1.pr r (by omega)
      have ro := P.2.2 r (by omega)
      have mono : ∀ i, wts f r i → wts f (r + 1) i := fun i ⟨r', a1, a2⟩ => ⟨r', by omega, a2⟩
      refine vX1_callsWaiting_4 ⟨P.1.k, fun e => absurd e ?_, fun _ => ⟨o + 2, P.1.p, by rw [P.1.pk], ?_, o + 8 + r, ?_, pr.2, fun e1 => ?_, fun e1 => ⟨NX, ?_⟩⟩⟩
      · rw [P.2.1]
        exact nI_ge (by omega) (by omega)
      · rw [P.1.pk]; exact vp_in_nI (by omega) (by decide)
      · rw [nI_clamp (by omega)]; exact pr.1
      · rw [nI_1]
        refine ih (r + 1) v (by omega) fun i hi => (hv i hi).trans ⟨mono i, ?_⟩
        rintro ⟨r', a1, a2, a3⟩
        have : r' ≠ r := fun q => e1 (by rw [ro.wh, ← q]; exact a2)
        exact ⟨r', by omega, a2, a3⟩
      · rw [ro.wh] at e1
        obtain ⟨w, w1, w2⟩ := (I.rids r (by omega)).we e1
        have hs : ∃ s, f (48 + 9 * r) = nI s ∧ 1 ≤ s ∧ s ≤ 2 := by
          rcases (I.rids r (by omega)).so with q | q
          · exact ⟨1, q, by omega, by omega⟩
          · exact ⟨2, q, by omega, by omega⟩
        obtain ⟨s, s1, s2, s3⟩ := hs
        obtain ⟨kk, k1, k2⟩ := kix_264 (w := wayR f r) (by omega : w < 12) s2 s3
        have en : ((4 * hI h (o + 8 + r) 5) + (if hI h (o + 8 + r) 6 ≤ 0 then 2 else 0 : Int32)) + (if hI h (o + 8 + r) 0 = 1 then 0 else 1 : Int32) = nI kk := by
          rw [ro.we, ro.wa e1, ro.so, w1, s1, n4]
          have es : (if nI s = (1 : Int32) then 0 else 1 : Int32) = nI (s - 1) := by
            have : s = 1 ∨ s = 2 := by omega
            rcases this with rfl | rfl <;> rfl
          have ew : (if wayR f r ≤ 0 then 2 else 0 : Int32) = nI (if wayR f r ≤ 0 then 2 else 0) := by
            split <;> rfl
          rw [es, ew, nI_add, nI_add]
          congr 1
          unfold kix at k2
          omega
        refine ⟨_, Cm.of (by decide) (Nat.le_of_ble_eq_true rfl) (vX7_callNumber_0 (Q := fun v h' => ∃ r, v = some (.int r) ∧ r = nI kk ∧ h' = h) ⟨_, rfl, en, rfl⟩), ?_⟩
        rintro _ _ ⟨rfl, rfl⟩
        rw [nI_1]
        refine ih (r + 1) _ (by omega) fun i hi => ?_
        rw [bL_set _ kk (by omega) hi]
        by_cases e : i = kk
        · rw [if_pos e]
          exact ⟨fun _ => ⟨r, by omega, e1, w, s, w1, by omega, s1, s2, s3, by rw [e]; exact k2⟩, fun _ => rfl⟩
        · rw [if_neg e, hv i hi]
          refine ⟨mono i, ?_⟩
          rintro ⟨r', a1, a2, w', s', a3, a4, a5, a6, a7, a8⟩
          have : r' ≠ r := fun q => by
            subst q
            rw [w1, nI_eq (by omega) (by omega)] at a3
            rw [s1, nI_eq (by omega) (by omega)] at a5
            rw [← a3, ← a5, k2] at a8
            omega
          exact ⟨r', by omega, a2, w', s', a3, a4, a5, a6, a7, a8⟩
  exact Cm.of (by decide) (Nat.le_of_ble_eq_true rfl) (vX1_callsWaiting_0 (loop nr 0 0 (by omega) fun i hi => ⟨(fun q => by rw [bL_0] at q; cases q), fun ⟨r, a1, _⟩ => absurd a1 (Nat.not_lt_zero r)⟩))
theorem CB.call {k : Nat} (C : CB h a ct g c) (hk : k < 48) : ¬ lg_cmp ((lus (hL h a 12) (nI k)) &&& 1) 0 = 0 ↔ g (264 + k) = nI c + 1 := by
  rw [lg0, bL_nz]
  constructor
  · rintro ⟨i, h1, h2⟩
    rw [bL_and, bL_ushr k (by omega), bL_c1 i h1] at h2
    simp only [Bool.and_eq_true, decide_eq_true_eq] at h2
    obtain ⟨h3, rfl⟩ := h2
    exact ((C.ca _ (by omega)).mp h3).2
  · intro e
    refine ⟨0, by omega, ?_⟩
    rw [bL_and, bL_ushr k (by omega), Nat.add_zero, (C.ca _ (by omega)).mpr ⟨hk, e⟩]
    rfl
theorem k_holderOf {k : Nat} (R : BR h o t ct nc nf nr f) (I : Inv ct nc nf nr m f) (hk : k < 48) : CI l x mX1_holderOf 0 0 0 [.ref o, .int (nI k)] h (fun v h' => v = f (264 + k) - 1 ∧ h' = h) := by
  have hC := I.hc
  have S := R.s
  obtain ⟨v, v1, v2, v3⟩ := I.call k hk
  have loop : ∀ (j c : Nat), c + j = nc → (∀ c', c' < c → ¬ f (264 + k) = nI c' + 1) → Gm l x mX1_holderOf 0 2 [(0, .ref o), (1, .int (nI k)), (2, .int (nI c))] [] h 0 0 (hN h) (fun v h' => ∃ r, v = some (.int r) ∧ r = f (264 + k) - 1 ∧ h' = h) (fun _ _ => False) := by
    intro j
    induction j with
    | zero =>
      intro c hj hn
      obtain rfl : c = nc := by omega
      refine vX1_holderOf_2 ⟨S.k, fun _ => ⟨_, rfl, ?_, rfl⟩, fun e => absurd ?_ e⟩
      · cases v with
        | zero => rw [v1]; rfl
        | succ v => exact absurd (by rw [v1, nI_1]) (hn v (by omega))
      · rw [R.nc]
        exact nI_le (Nat.le_refl _) (by omega)
    | succ j ih =>
      intro c hj hn
      have lc := S.lc c (by omega)
      have C := (R.ca c (by omega)).1
      refine vX1_holderOf_2 ⟨S.k, fun e => absurd e ?_, fun _ => ⟨o + 1, S.l, by rw [S.lk], ?_, o + 4 + c, ?_, lc.2, fun e1 => ?_, fun e1 => ⟨_, rfl, ?_, rfl⟩⟩⟩
      · rw [R.nc]
        exact nI_ge (by omega) (by omega)
      · rw [S.lk]; exact vp_in_nI (by omega) (by decide)
      · rw [nI_clamp (by omega)]; exact lc.1
      · rw [nI_1]
        refine ih (c + 1) (by omega) fun c' hc' q => ?_
        by_cases z : c' = c
        · exact (C.call hk).mpr (z ▸ q) e1
        · exact hn c' (by omega) q
      · rw [(C.call hk).mp e1, nI_1, nI_pred]
  exact Cm.of (by decide) (Nat.le_of_ble_eq_true rfl) (vX1_holderOf_0 (loop nc 0 (by omega) fun c' h => absurd h (Nat.not_lt_zero c')))
/-- whether a call wants a car -/
def wntC (f : Nat → Int32) (k : Nat) : Int32 := if f (264 + k) ≤ 0 then 1 else lateC f (f (264 + k) - 1).toNatClampNeg (nI (k / 4))
theorem k_wantsCar {k : Nat} (R : BR h o t ct nc nf nr f) (I : Inv ct nc nf nr m f) (hk : k < 48) : CI l x mX1_wantsCar 1 0 0 [.ref o, .int (nI k)] h (fun v h' => v = wntC f k ∧ h' = h) := by
  have hC := I.hc
  have S := R.s
  obtain ⟨v, v1, v2, v3⟩ := I.call k hk
  refine Cm.of (by decide) (Nat.le_of_ble_eq_true rfl) (vX1_wantsCar_0 ⟨S.k, _, k_holderOf R I hk, ?_⟩)
  rintro _ _ ⟨rfl, rfl⟩
  have e4 : nI k / 4 = nI (k / 4) := by
    show nI k / nI 4 = _
    rw [pk_div (by omega) (by omega) (by omega)]
  unfold wntC
  cases v with
  | zero =>
    rw [v1]
    exact ⟨fun e => absurd (by decide) e, fun _ => ⟨Or.inr rfl, _, rfl, by rw [if_pos (by decide)], rfl⟩⟩
  | succ v =>
    have ev : f (264 + k) - 1 = nI v := by rw [v1, nI_pred]
    have hne : ¬ nI v = (-1 : Int32) := fun q => by
      have : (nI v).toInt = -1 := by rw [q]; decide
      rw [nI_toInt (by omega)] at this
      omega
    have hpos : ¬ f (264 + k) ≤ 0 := by rw [v1]; exact nI_nle (by omega) (by omega)
    have lc := S.lc v (by omega)
    have C := (R.ca v (by omega)).1
    rw [ev, if_neg hpos, nI_clamp (by omega)]
    refine ⟨fun _ => ⟨S.k, o + 1, S.l, by rw [S.lk], ?_, o + 4 + v, ?_, lc.2, ?_⟩, fun e => absurd e hne⟩
    · rw [S.lk]; exact vp_in_nI (by omega) (by decide)
    · exact lc.1
    · rw [C.fl, C.dr, R.la, R.po, e4]
      have ea : (if 0 ≤ (f (16 + 8 * v) - nI (k / 4)) then (f (16 + 8 * v) - nI (k / 4)) else 0 - (f (16 + 8 * v) - nI (k / 4))) = absI (f (16 + 8 * v) - nI (k / 4)) := rfl
      rw [ea]
      unfold lateC
      refine ⟨fun e => ⟨Or.inl rfl, _, rfl, ?_, rfl⟩, fun e => ⟨?_, _, rfl, ?_, rfl⟩⟩
      · split
        · rfl
        · split
          · rfl
          · split
            · first | rfl | rw [if_pos e]
            · rfl
      · split
        · exact Or.inl rfl
        · split
          · exact Or.inl rfl
          · split
            · exact Or.inr rfl
            · exact Or.inl rfl
      · rw [if_neg e]
end Bank2
