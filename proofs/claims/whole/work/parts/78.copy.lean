/-! THE CLASS: a Bank is copied; what is set in a Bank -/
section Copy
variable {l : Launch} {x : CX} {h h' : PH} {o o2 c nc nf nr m : Nat} {f f' t ct : Nat → Int32}
theorem k_copyRider {a b r : Nat} (q : RO h b f r) (ka : (hK h a).1 = 6) (kb : (hK h b).1 = 6) : CV l x mX6_copyFrom 0 0 0 [.ref a, .ref b] h (fun h' => Fr1 a h h' ∧ RO h' a f r) := by
  have st : ∀ h' : PH, Fr1 a h h' → (∀ k, k < 10 → hI h' a k = hI h b k) → (none : Option Value) = none ∧ Fr1 a h h' ∧ RO h' a f r := by
    intro h' fr e
    obtain ⟨q0, q1, q2, q3, q4, q5, q6, q7, q8, q9⟩ := q
    exact ⟨rfl, fr, (e 0 (by omega)).trans q0, (e 1 (by omega)).trans q1, (e 2 (by omega)).trans q2, (e 3 (by omega)).trans q3, (e 4 (by omega)).trans q4, (e 5 (by omega)).trans q5, fun z => (e 6 (by omega)).trans (q6 z), (e 7 (by omega)).trans q7, (e 8 (by omega)).trans q8, (e 9 (by omega)).trans q9⟩
  refine Cm.of (by decide) (Nat.le_of_ble_eq_true rfl) (vX6_copyFrom_0 ⟨kb, ka, st _ ?_ ?_⟩)
  · exact ((((((((((Fr1.refl a h).sI _ _).sI _ _).sI _ _).sI _ _).sI _ _).sI _ _).sI _ _).sI _ _).sI _ _).sI _ _
  · intro k hk
    have : k = 0 ∨ k = 1 ∨ k = 2 ∨ k = 3 ∨ k = 4 ∨ k = 5 ∨ k = 6 ∨ k = 7 ∨ k = 8 ∨ k = 9 := by omega
    rcases this with rfl | rfl | rfl | rfl | rfl | rfl | rfl | rfl | rfl | rfl
    all_goals simp (disch := decide) only [gI, gIk]
theorem k_copyBank (R : BR h o2 t ct nc nf nr f) (S : BS h o) (I : Inv ct nc nf nr m f) (G : GI nc f) (hd : o + 32 ≤ o2 ∨ o2 + 32 ≤ o) : CV l x mX1_copyFrom 1 0 0 [.ref o, .ref o2] h (fun h' => FrB o h h' ∧ BR h' o t ct nc nf nr f) := by
  have hC := I.hc
  have h24 := I.hr
  have src : ∀ h1 : PH, FrB o h h1 → BR h1 o2 t ct nc nf nr f := fun h1 fb => R.ac hC h24 (R.s.frb fb) fun b h1 h2 _ => fb.ac (by omega)
  have loopR : ∀ (j r : Nat) (h1 : PH), r + j = nr → FrB o h h1 → (∀ k, k < 13 → hI h1 o k = hI h o2 k) → (∀ c, c < nc → CO h1 (o + 4 + c) ct nr f c ∧ hI h1 (o + 4 + c) 8 = hI h (o2 + 4 + c) 8) → (∀ r', r' < r → RO h1 (o + 8 + r') f r') → Gm l x mX1_copyFrom 1 137 [(0, .ref o), (1, .ref o2), (2, .int (nI r))] [] h1 0 0 (hN h) (fun v h' => v = none ∧ FrB o h h' ∧ BR h' o t ct nc nf nr f) (fun _ _ => False) := by
    intro j
    induction j with
    | zero =>
      intro r h1 hj fb ek ca ri
      obtain rfl : r = nr := by omega
      have S1 := S.frb fb
      refine vX1_copyFrom_137 ⟨S1.k, fun _ => ⟨rfl, fb, ?_⟩, fun e => absurd ?_ e⟩
      · refine ⟨S1, (ek 0 (by omega)).trans R.fl, (ek 1 (by omega)).trans R.nc, (ek 2 (by omega)).trans R.nr, (ek 3 (by omega)).trans R.dw, (ek 4 (by omega)).trans R.la, (ek 5 (by omega)).trans R.po, (ek 6 (by omega)).trans R.pk, (ek 7 (by omega)).trans R.ti, (ek 8 (by omega)).trans R.bu, (ek 9 (by omega)).trans R.tu, ?_, (ek 11 (by omega)).trans R.ru, (ek 12 (by omega)).trans R.fi, fun c hc => (ca c hc).1, ri, ?_⟩
        · rw [ek 10 (by omega)]; exact R.ar
        · rw [← R.pa]
          have : ∀ k, k ≤ nc → ps h1 o k = ps h o2 k := by
            intro k
            induction k with
            | zero => intro _; rfl
            | succ k ih =>
              intro hk
              unfold ps
              rw [ih (by omega), (ca k (by omega)).2]
          exact this nc (Nat.le_refl _)
      · rw [ek 2 (by omega), R.nr]
        exact nI_le (Nat.le_refl _) (by omega)
    | succ j ih =>
      intro r h1 hj fb ek ca ri
      have S1 := S.frb fb
      have R1 := src h1 fb
      have pr := S1.pr r (by omega)
      have pr2 := R1.s.pr r (by omega)
      refine vX1_copyFrom_137 ⟨S1.k, fun e => absurd e ?_, fun _ => ⟨o + 2, S1.p, by rw [S1.pk], ?_, o + 8 + r, ?_, R1.s.k, o2 + 2, R1.s.p, by rw [R1.s.pk], ?_, o2 + 8 + r, ?_, pr.2, _, k_copyRider (R1.ri r (by omega)) pr.2 pr2.2, ?_⟩⟩
      · rw [ek 2 (by omega), R.nr]
        exact nI_ge (by omega) (by omega)
      · rw [S1.pk]; exact vp_in_nI (by omega) (by decide)
      · rw [nI_clamp (by omega)]; exact pr.1
      · rw [R1.s.pk]; exact vp_in_nI (by omega) (by decide)
      · rw [nI_clamp (by omega)]; exact pr2.1
      · rintro h2 ⟨fr, ro⟩
        rw [nI_1]
        refine ih (r + 1) h2 (by omega) (fb.trans (fr.frb (by omega) (by omega))) (fun k hk => (fr.hI (by omega) k).trans (ek k hk)) (fun c hc => ⟨(ca c hc).1.ac (fr.ac (by omega)), (fr.hI (by omega) 8).trans (ca c hc).2⟩) fun r' hr' => ?_
        by_cases e : r' = r
        · rw [e]; exact ro
        · exact (ri r' (by omega)).ac (fr.ac (by omega))
  have loopC : ∀ (j c : Nat) (h1 : PH), c + j = nc → FrB o h h1 → (∀ k, k < 13 → hI h1 o k = hI h o2 k) → (∀ c', c' < c → CO h1 (o + 4 + c') ct nr f c' ∧ hI h1 (o + 4 + c') 8 = hI h (o2 + 4 + c') 8) → Gm l x mX1_copyFrom 1 106 [(0, .ref o), (1, .ref o2), (2, .int (nI c))] [] h1 0 0 (hN h) (fun v h' => v = none ∧ FrB o h h' ∧ BR h' o t ct nc nf nr f) (fun _ _ => False) := by
    intro j
    induction j with
    | zero =>
      intro c h1 hj fb ek ca
      obtain rfl : c = nc := by omega
      have S1 := S.frb fb
      refine vX1_copyFrom_106 ⟨S1.k, fun _ => loopR nr 0 h1 (by omega) fb ek ca (fun r' z => absurd z (Nat.not_lt_zero r')), fun e => absurd ?_ e⟩
      rw [ek 1 (by omega), R.nc]
      exact nI_le (Nat.le_refl _) (by omega)
    | succ j ih =>
      intro c h1 hj fb ek ca
      have S1 := S.frb fb
      have R1 := src h1 fb
      have lc := S1.lc c (by omega)
      have lc2 := R1.s.lc c (by omega)
      refine vX1_copyFrom_106 ⟨S1.k, fun e => absurd e ?_, fun _ => ⟨o + 1, S1.l, by rw [S1.lk], ?_, o + 4 + c, ?_, R1.s.k, o2 + 1, R1.s.l, by rw [R1.s.lk], ?_, o2 + 4 + c, ?_, lc.2, _, k_copyCar (R1.ca c (by omega)) (I.cars c (by omega)).inn lc.2, ?_⟩⟩
      · rw [ek 1 (by omega), R.nc]
        exact nI_ge (by omega) (by omega)
      · rw [S1.lk]; exact vp_in_nI (by omega) (by decide)
      · rw [nI_clamp (by omega)]; exact lc.1
      · rw [R1.s.lk]; exact vp_in_nI (by omega) (by decide)
      · rw [nI_clamp (by omega)]; exact lc2.1
      · rintro h2 ⟨fr, co, e8, _, _⟩
        rw [nI_1]
        refine ih (c + 1) h2 (by omega) (fb.trans (fr.frb (by omega) (by omega))) (fun k hk => (fr.hI (by omega) k).trans (ek k hk)) fun c' hc' => ?_
        by_cases e : c' = c
        · subst e
          exact ⟨co, e8.trans ((fb.ac (by omega)).2 8).1⟩
        · exact ⟨(ca c' (by omega)).1.ac (fr.ac (by omega)), (fr.hI (by omega) 8).trans (ca c' (by omega)).2⟩
  have p01 : hI h o2 11 = 0 ∨ hI h o2 11 = 1 := by
    rw [R.ru]
    unfold peakC
    split
    · exact Or.inl rfl
    · split
      · exact Or.inl rfl
      · exact Or.inr rfl
  have st : ∀ h1 : PH, Fr1 o h h1 → (∀ k, k < 13 → hI h1 o k = hI h o2 k) → Gm l x mX1_copyFrom 1 106 [(0, .ref o), (1, .ref o2), (2, .int 0)] [] h1 0 0 (hN h) (fun v h' => v = none ∧ FrB o h h' ∧ BR h' o t ct nc nf nr f) (fun _ _ => False) := fun h1 fr ek => loopC nc 0 h1 (by omega) (fr.frb (by omega) (by omega)) ek (fun c' z => absurd z (Nat.not_lt_zero c'))
  refine Cm.of (by decide) (Nat.le_of_ble_eq_true rfl) (vX1_copyFrom_0 ⟨R.s.k, S.k, by rw [R.bu]; exact G.1, p01, st _ ?_ ?_⟩)
  · exact (((((((((((((Fr1.refl o h).sI _ _).sI _ _).sI _ _).sI _ _).sI _ _).sI _ _).sI _ _).sI _ _).sI _ _).sI _ _).sI _ _).sI _ _).sI _ _
  · intro k hk
    have : k = 0 ∨ k = 1 ∨ k = 2 ∨ k = 3 ∨ k = 4 ∨ k = 5 ∨ k = 6 ∨ k = 7 ∨ k = 8 ∨ k = 9 ∨ k = 10 ∨ k = 11 ∨ k = 12 := by omega
    rcases this with rfl | rfl | rfl | rfl | rfl | rfl | rfl | rfl | rfl | rfl | rfl | rfl | rfl
    all_goals simp (disch := decide) only [gI, gIk]
/-- policy, late, fire, turn are set -/
theorem BR.setB {k j : Nat} {v : Int32} (R : BR h o t ct nc nf nr f) (hC : nc ≤ 4) (h24 : nr ≤ 24) (hk : (k = 5 ∧ j = 2) ∨ (k = 4 ∧ j = 3) ∨ (k = 8 ∧ j = 1)) : BR (sI h o k v) o t ct nc nf nr (up f j v) := by
  have fr : Fr1 o h (sI h o k v) := (Fr1.refl _ _).sI _ _
  have em : mm (up f j v) = mm f := by unfold mm; rw [up_ne (by omega)]
  have S := R.s.fr fr
  refine ⟨S, (gIk _ _ _ (by omega)).trans R.fl, (gIk _ _ _ (by omega)).trans R.nc, (gIk _ _ _ (by omega)).trans R.nr, (gIk _ _ _ (by omega)).trans R.dw, ?_, ?_, (gIk _ _ _ (by omega)).trans R.pk, ?_, ?_, ?_, ?_, ?_, ?_, fun c hc => ?_, fun r hr => ?_, ?_⟩
  · by_cases e : k = 4
    · rw [e, gI, show j = 3 by omega, up_eq]
    · rw [gIk _ _ _ (by omega), up_ne (by omega)]; exact R.la
  · by_cases e : k = 5
    · rw [e, gI, show j = 2 by omega, up_eq]
    · rw [gIk _ _ _ (by omega), up_ne (by omega)]; exact R.po
  · rw [gIk _ _ _ (by omega), up_ne (by omega)]; exact R.ti
  · by_cases e : k = 8
    · rw [e, gI, show j = 1 by omega, up_eq]
    · rw [gIk _ _ _ (by omega), up_ne (by omega)]; exact R.bu
  · rw [gIk _ _ _ (by omega), up_ne (by omega)]; exact R.tu
  · rw [gIk _ _ _ (by omega)]
    exact R.ar.same fun j h1 h2 => up_ne (by omega)
  · rw [gIk _ _ _ (by omega), em, peak_same (by omega) (fun j h1 h2 => up_ne (by omega))]; exact R.ru
  · rw [gIk _ _ _ (by omega), cnt_same (fun r hr => up_ne (by omega))]; exact R.fi
  · have ac := fr.ac (b := o + 4 + c) (by omega)
    refine (R.ca c hc).oth (S.lc c (by omega)).2 (fun k => (ac.2 k).1) (fun k => (ac.2 k).2.2.1) (ac.2 11).2.1 (fun k hk => up_ne (by omega)) (fun r hr => up_ne (by omega)) fun i hi => ?_
    rw [(ac.2 12).2.1, up_ne (by omega)]
    exact (R.ca c hc).1.ca i hi
  · exact ((R.ri r hr).ac (fr.ac (by omega))).row fun k hk => up_ne (by omega)
  · rw [ps_eq (fun c hc => fr.hI (by omega) 8) nc (Nat.le_refl _), up_ne (by omega)]
    exact R.pa
/-- a car's home, capacity, floor, service are set -/
theorem BR.setC {k j : Nat} {v : Int32} (R : BR h o t ct nc nf nr f) (hC : nc ≤ 4) (h24 : nr ≤ 24) (hc : c < nc) (hk : (k = 1 ∧ j = 6) ∨ (k = 2 ∧ j = 7) ∨ (k = 3 ∧ j = 0) ∨ (k = 6 ∧ j = 4)) : BR (sI h (o + 4 + c) k v) o t ct nc nf nr (up f (16 + 8 * c + j) v) := by
  have fr : Fr1 (o + 4 + c) h (sI h (o + 4 + c) k v) := (Fr1.refl _ _).sI _ _
  refine R.one (d := 0) hC h24 hc fr ?_ (fun q _ _ => up_ne (by omega)) (fun c' _ _ q _ => up_ne (by omega)) (fun r _ q _ => up_ne (by omega)) (fun i _ => up_ne (by omega)) (by rw [gIk _ _ _ (by omega), Int32.add_zero]) (by rw [up_ne (by omega), Int32.add_zero])
  obtain ⟨⟨q1, q2, q3, q4, q5, q6, q7, q8, q9, q10, q11, q12⟩, G⟩ := R.ca c hc
  refine ⟨⟨q1, (gIk _ _ _ (by omega)).trans q2, ?_, ?_, ?_, ?_, ?_, ?_, ?_, ?_, ?_, fun i hi => ?_⟩, G.same rfl (up_ne (by omega)) (fun r hr => up_ne (by omega))⟩
  · by_cases e : k = 1
    · rw [e, gI, show j = 6 by omega, up_eq]
    · rw [gIk _ _ _ (by omega), up_ne (by omega)]; exact q3
  · by_cases e : k = 2
    · rw [e, gI, show j = 7 by omega, up_eq]
    · rw [gIk _ _ _ (by omega), up_ne (by omega)]; exact q4
  · by_cases e : k = 3
    · have e0 : 16 + 8 * c + j = 16 + 8 * c := by omega
      rw [e, gI, e0, up_eq]
    · rw [gIk _ _ _ (by omega), up_ne (by omega)]; exact q5
  · rw [gIk _ _ _ (by omega), up_ne (by omega)]; exact q6
  · rw [gIk _ _ _ (by omega), up_ne (by omega)]; exact q7
  · by_cases e : k = 6
    · rw [e, gI, show j = 4 by omega, up_eq]
    · rw [gIk _ _ _ (by omega), up_ne (by omega)]; exact q8
  · rw [hF_sI, up_ne (by omega)]; exact q9
  · rw [gIk _ _ _ (by omega), up_ne (by omega)]; exact q10
  · rw [gIk _ _ _ (by omega), up_ne (by omega)]; exact q11
  · rw [hL_sI, up_ne (by omega)]; exact q12 i hi
/-- a rider's time is set -/
theorem BR.setR {r : Nat} {v : Int32} (R : BR h o t ct nc nf nr f) (hC : nc ≤ 4) (h24 : nr ≤ 24) (hr : r < nr) : BR (sI h (o + 8 + r) 1 v) o t ct nc nf nr (up f (48 + 9 * r + 1) v) := by
  have fr : Fr1 (o + 8 + r) h (sI h (o + 8 + r) 1 v) := (Fr1.refl _ _).sI _ _
  have S := R.s.fr fr
  refine R.mk' S (fun k _ => fr.hI (by omega) k) ?_ (fun j h1 _ => up_ne (by omega)) (fun c hc => ?_) (fun r' hr' => ?_) ?_
  · rw [fr.hI (by omega), R.fi, cnt_same (fun r' hr' => up_ne (by omega))]
  · have ac := fr.ac (b := o + 4 + c) (by omega)
    refine (R.ca c hc).oth (S.lc c (by omega)).2 (fun k => (ac.2 k).1) (fun k => (ac.2 k).2.2.1) (ac.2 11).2.1 (fun k hk => up_ne (by omega)) (fun r' hr' => up_ne (by omega)) fun i hi => ?_
    rw [(ac.2 12).2.1, up_ne (by omega)]
    exact (R.ca c hc).1.ca i hi
  · by_cases e : r' = r
    · subst e
      obtain ⟨q0, q1, q2, q3, q4, q5, q6, q7, q8, q9⟩ := R.ri r' hr'
      refine ⟨?_, ?_, ?_, ?_, ?_, ?_, fun z => ?_, ?_, ?_, ?_⟩
      · rw [gIk _ _ _ (by decide), up_ne (by omega)]; exact q0
      · rw [gI, up_eq]
      · rw [gIk _ _ _ (by decide), up_ne (by omega)]; exact q2
      · rw [gIk _ _ _ (by decide), up_ne (by omega)]; exact q3
      · rw [gIk _ _ _ (by decide), up_ne (by omega)]; exact q4
      · rw [gIk _ _ _ (by decide), up_ne (by omega)]; exact q5
      · rw [up_ne (by omega)] at z
        unfold wayR
        rw [gIk _ _ _ (by decide), up_ne (by omega), up_ne (by omega)]
        exact q6 z
      · rw [gIk _ _ _ (by decide), up_ne (by omega)]; exact q7
      · rw [gIk _ _ _ (by decide), up_ne (by omega)]; exact q8
      · rw [gIk _ _ _ (by decide), up_ne (by omega)]; exact q9
    · exact ((R.ri r' hr').ac (fr.ac (by omega))).row fun k hk => up_ne (by omega)
  · rw [ps_eq (fun c hc => fr.hI (by omega) 8) nc (Nat.le_refl _), up_ne (by omega)]
    exact R.pa
end Copy
