/-! THE REFERENCE, EIGHTH PART: opens, whole; steps -/
section Ref8
variable {l : Launch} {x : CX} {mo : Nat} {h : PH} {f t ct : Nat → Int32}
theorem l_opens162 {nr c fl : Nat} {y z : Int32} {g : Nat → Int32} {rc rs n0 : Nat} {Q : Option Value → PH → Prop} {X : String → PH → Prop} (FB : FBits l x) (w : MW mo h) (hc : c < 4) (hfl : fl < 12) (h6 : g 6 = nI nr) (hnr : nr ≤ 24) (ht : ∀ k, hI h (mo + 4) k = t k) (hct : ∀ k, hI h (mo + 6) k = ct k) (hw : Fok (g (16 + 8 * c + 5)).toUInt32) (hQ : Q none (NW mo h (opEnd t ct (opB ct g c (nI fl) y nr) c fl y))) : ∀ (m i : Nat), i + m = nr → Gm l x mX8_opens 5 162 [(0, .ref mo), (1, .int (nI c)), (2, .int (nI fl)), (3, .int y), (4, .int z), (5, .int (nI i))] [] (NW mo h (opB ct g c (nI fl) y i)) rc rs n0 Q X := by
  have w2 := w.row 2 2 312 (by decide)
  have i6 : vp_in 6 (hK h (mo + 2)).2 := by rw [w2.2.2]; exact vp_in_nI (n := 6) (by decide) (by decide)
  have i0 : vp_in 0 (hK h (mo + 2)).2 := by rw [w2.2.2]; exact vp_in_nI (n := 0) (by decide) (by decide)
  have b6 : ∀ i, opB ct g c (nI fl) y i 6 = nI nr := fun i => (opB_ne (by omega) i (fun r hr => ⟨by omega, by omega, by omega⟩)).trans h6
  have b5 : ∀ i, Fok (opB ct g c (nI fl) y i (16 + 8 * c + 5)).toUInt32 := fun i => by rw [opB_ne (by omega) i (fun r hr => ⟨by omega, by omega, by omega⟩)]; exact hw
  intro m
  induction m with
  | zero =>
    intro i hi
    obtain rfl : i = nr := by omega
    refine vX8_opens_162 ⟨w.1, mo + 2, w2.1, w2.2.1, i6, fun _ => l_opens300 FB w hc hfl ht hct (b5 i) hQ, fun e => absurd ?_ e⟩
    rw [now6 (b6 i)]
    exact nI_le (Nat.le_refl _) (by omega)
  | succ m ih =>
    intro i hi
    have hlt : i < 24 := by omega
    have h1 := ih (i + 1) (by omega)
    rw [← nI_1] at h1
    have no : ∀ (q : ¬ (fullC (opB ct g c (nI fl) y i) c = 0 ∧ opB ct g c (nI fl) y i (48 + 9 * i + 4) = 1 ∧ opB ct g c (nI fl) y i (48 + 9 * i + 5) = nI fl ∧ wayR (opB ct g c (nI fl) y i) i = y ∧ ¬ takesC ct c (opB ct g c (nI fl) y i (48 + 9 * i)) = 0)), Gm l x mX8_opens 5 162 [(0, .ref mo), (1, .int (nI c)), (2, .int (nI fl)), (3, .int y), (4, .int z), (5, .int (nI i + 1))] [] (NW mo h (opB ct g c (nI fl) y i)) rc rs n0 Q X := by
      intro q
      rw [show opB ct g c (nI fl) y (i + 1) = opB ct g c (nI fl) y i from if_neg q] at h1
      exact h1
    refine vX8_opens_162 ⟨w.1, mo + 2, w2.1, w2.2.1, i6, fun e => absurd e ?_, fun _ => ⟨_, c_isFull w hc, ?_⟩⟩
    · rw [now6 (b6 i)]
      exact nI_ge (by omega) (by omega)
    · rintro _ _ ⟨rfl, rfl⟩
      refine ⟨fun ef => ?_, fun ef => ⟨w.1, _, c_of (k := 4) w hlt (by decide), ?_⟩⟩
      · have e := opB_full ef (nr - i)
        rw [show i + (nr - i) = nr from by omega] at e
        rw [e] at hQ
        exact l_opens300 FB w hc hfl ht hct (b5 i) hQ
      · rintro _ _ ⟨rfl, rfl⟩
        refine ⟨fun e4 => no (fun q => e4 q.2.1), fun e4 => ⟨w.1, _, c_of (k := 5) w hlt (by decide), ?_⟩⟩
        rintro _ _ ⟨rfl, rfl⟩
        refine ⟨fun e5 => no (fun q => e5 q.2.2.1), fun e5 => ⟨w.1, _, c_wayOf w hlt, ?_⟩⟩
        rintro _ _ ⟨rfl, rfl⟩
        refine ⟨fun ew => no (fun q => ew q.2.2.2.1), fun ew => ⟨w.1, _, c_of (k := 0) w hlt (by decide), ?_⟩⟩
        rintro _ _ ⟨rfl, rfl⟩
        refine ⟨w.1, _, c_takes (w.rw _ _) hc, ?_⟩
        rintro _ _ ⟨rfl, rfl⟩
        rw [takes_ct hct]
        refine ⟨fun et => ⟨w.1, _, c_carOf (k := 3) w hc (by decide), ?_⟩, fun et => no (fun q => q.2.2.2.2 et)⟩
        rintro _ _ ⟨rfl, rfl⟩
        refine ⟨w.1, _, c_putCar (k := 3) w hc (by decide), ?_⟩
        rintro _ rfl
        refine ⟨w.1, _, c_put (k := 4) w hlt (by decide), ?_⟩
        rintro _ rfl
        refine ⟨w.1, _, c_put (k := 5) w hlt (by decide), ?_⟩
        rintro _ rfl
        refine ⟨w.1, _, c_of (k := 8) w hlt (by decide), ?_⟩
        rintro _ _ ⟨rfl, rfl⟩
        have yes : opB ct g c (nI fl) y (i + 1) = (if onT (opB ct g c (nI fl) y i) c i (48 + 9 * i + 8) = -1 then up (onT (opB ct g c (nI fl) y i) c i) (48 + 9 * i + 8) (onT (opB ct g c (nI fl) y i) c i 0) else onT (opB ct g c (nI fl) y i) c i) := if_pos ⟨ef, e4, e5, ew, et⟩
        refine ⟨fun e8 => ?_, fun e8 => ⟨w.1, mo + 2, w2.1, w2.2.1, i0, _, c_put (k := 8) w hlt (by decide), ?_⟩⟩
        · rw [show opB ct g c (nI fl) y (i + 1) = onT (opB ct g c (nI fl) y i) c i from yes.trans (if_neg e8)] at h1
          exact h1
        · rintro _ rfl
          rw [show opB ct g c (nI fl) y (i + 1) = up (onT (opB ct g c (nI fl) y i) c i) (48 + 9 * i + 8) (onT (opB ct g c (nI fl) y i) c i 0) from yes.trans (if_pos e8)] at h1
          rw [hI_rws]
          exact h1
theorem l_opens75 {nr nf m c fl : Nat} {z : Int32} {g : Nat → Int32} {rc rs n0 : Nat} {Q : Option Value → PH → Prop} {X : String → PH → Prop} (FB : FBits l x) (w : MW mo h) (hc : c < 4) (hfl : fl < 12) (hr : RV mo h g t nr nf m) (hct : ∀ k, hI h (mo + 6) k = ct k) (hw : Fok (g (16 + 8 * c + 5)).toUInt32) (hQ : Q none (NW mo h (opEnd t ct (opB ct (up g (16 + 8 * c + 1) (opW g nr nf c fl)) c (nI fl) (opW g nr nf c fl) nr) c fl (opW g nr nf c fl)))) : Gm l x mX8_opens 5 75 [(0, .ref mo), (1, .int (nI c)), (2, .int (nI fl)), (3, .int z)] [] (NW mo h g) rc rs n0 Q X := by
  have hnr := hr.2.1
  have go : ∀ y : Int32, opW g nr nf c fl = y → ∀ z : Int32, (hK (NW mo h g) mo).1 = 8 ∧ ∃ q : PH → Prop, CV l x mX8_putCar 0 0 0 [.ref mo, .int (nI c), .int 1, .int y] (NW mo h g) q ∧ ∀ h28 : PH, q h28 → Gm l x mX8_opens 5 162 [(0, .ref mo), (1, .int (nI c)), (2, .int (nI fl)), (3, .int y), (4, .int z), (5, .int 0)] [] h28 rc rs n0 Q X := by
    rintro _ rfl z
    refine ⟨w.1, _, c_putCar (k := 1) w hc (by decide), ?_⟩
    rintro _ rfl
    exact l_opens162 (g := up g (16 + 8 * c + 1) (opW g nr nf c fl)) FB w hc hfl ((up_ne (by omega)).trans hr.1) hnr hr.2.2.2.2.2.2.2 hct (by rw [up_ne (by omega)]; exact hw) hQ nr 0 (by omega)
  have dn : ∀ y0 : Int32, g (16 + 8 * c + 1) = y0 → opW g nr nf c fl = opWd g nr nf c fl y0 → ∀ z : Int32, (hK (NW mo h g) mo).1 = 8 ∧ ∃ q8 : Int32 → PH → Prop, CI l x mX8_hasCall 1 0 0 [.ref mo, .int (nI c), .int (nI fl), .int 1] (NW mo h g) q8 ∧ ∀ (r12 : Int32) (h11 : PH), q8 r12 h11 → ((r12 = 0 → (hK h11 mo).1 = 8 ∧ ∃ q14 : Int32 → PH → Prop, CI l x mX8_hasCall 1 0 0 [.ref mo, .int (nI c), .int (nI fl), .int (-1)] h11 q14 ∧ ∀ (r18 : Int32) (h17 : PH), q14 r18 h17 → ((r18 = 0 → (hK h17 mo).1 = 8 ∧ ∃ q20 : Int32 → PH → Prop, CI l x mX8_turned 4 0 0 [.ref mo, .int (nI c), .int y0] h17 q20 ∧ ∀ (r24 : Int32) (h23 : PH), q20 r24 h23 → (hK h23 mo).1 = 8 ∧ ∃ q25 : PH → Prop, CV l x mX8_putCar 0 0 0 [.ref mo, .int (nI c), .int 1, .int r24] h23 q25 ∧ ∀ h28 : PH, q25 h28 → Gm l x mX8_opens 5 162 [(0, .ref mo), (1, .int (nI c)), (2, .int (nI fl)), (3, .int r24), (4, .int z), (5, .int 0)] [] h28 rc rs n0 Q X) ∧ (¬ r18 = 0 → (hK h17 mo).1 = 8 ∧ ∃ q29 : PH → Prop, CV l x mX8_putCar 0 0 0 [.ref mo, .int (nI c), .int 1, .int (-1)] h17 q29 ∧ ∀ h32 : PH, q29 h32 → Gm l x mX8_opens 5 162 [(0, .ref mo), (1, .int (nI c)), (2, .int (nI fl)), (3, .int (-1)), (4, .int z), (5, .int 0)] [] h32 rc rs n0 Q X))) ∧ (¬ r12 = 0 → (hK h11 mo).1 = 8 ∧ ∃ q33 : PH → Prop, CV l x mX8_putCar 0 0 0 [.ref mo, .int (nI c), .int 1, .int 1] h11 q33 ∧ ∀ h36 : PH, q33 h36 → Gm l x mX8_opens 5 162 [(0, .ref mo), (1, .int (nI c)), (2, .int (nI fl)), (3, .int 1), (4, .int z), (5, .int 0)] [] h36 rc rs n0 Q X)) := by
    rintro _ rfl ew z
    refine ⟨w.1, _, c_hasCall w hfl, ?_⟩
    rintro _ _ ⟨rfl, rfl⟩
    refine ⟨fun e1 => ⟨w.1, _, c_hasCall w hfl, ?_⟩, fun e1 => go 1 (by rw [ew]; exact if_neg e1) z⟩
    rintro _ _ ⟨rfl, rfl⟩
    refine ⟨fun e2 => ⟨w.1, _, c_turned w hc hr.1 hnr hr.2.2.1 hr.2.2.2.1 hr.2.2.2.2.1, ?_⟩, fun e2 => go (-1) (by rw [ew]; exact (if_pos e1).trans (if_neg e2)) z⟩
    rintro _ _ ⟨rfl, rfl⟩
    exact go _ (by rw [ew]; exact (if_pos e1).trans (if_pos e2)) z
  refine vX8_opens_75 ⟨w.1, _, c_carOf (k := 1) w hc (by decide), ?_⟩
  rintro _ _ ⟨rfl, rfl⟩
  refine ⟨fun e => dn _ rfl (if_pos e) _, fun e => ⟨w.1, _, c_isStop w hc hr.1 hnr hr.2.2.1 hr.2.2.2.1 hr.2.2.2.2.1, ?_⟩⟩
  rintro _ _ ⟨rfl, rfl⟩
  refine ⟨fun e1 => go _ ((if_neg e).trans (if_neg e1)) _, fun e1 => ⟨w.1, _, c_hasCall w hfl, ?_⟩⟩
  rintro _ _ ⟨rfl, rfl⟩
  refine ⟨fun e2 => go _ ?_ _, fun e2 => dn _ rfl ?_ _⟩
  · have e3 : ¬ hasC g c fl (g (16 + 8 * c + 1)) = 0 := fun q => e2 (if_pos q)
    exact (if_neg e).trans ((if_pos e1).trans (if_neg e3))
  · have e3 : hasC g c fl (g (16 + 8 * c + 1)) = 0 := by
      by_cases q : hasC g c fl (g (16 + 8 * c + 1)) = 0
      · exact q
      · rw [if_neg q] at e2; exact absurd e2 (by decide)
    exact (if_neg e).trans ((if_pos e1).trans (if_pos e3))
theorem l_opens9 {nr nf m c fl : Nat} {rc rs n0 : Nat} {X : String → PH → Prop} (FB : FBits l x) (w : MW mo h) (hc : c < 4) (hfl : fl < 12) (hr : RV mo h f t nr nf m) (hct : ∀ k, hI h (mo + 6) k = ct k) (hw : Fok (f (16 + 8 * c + 5)).toUInt32) : ∀ (k i : Nat), i + k = nr → Gm l x mX8_opens 5 9 [(0, .ref mo), (1, .int (nI c)), (2, .int (nI fl)), (3, .int (nI i))] [] (NW mo h (opA f c (nI fl) i)) rc rs n0 (fun v h' => v = none ∧ h' = NW mo h (opensC f t ct nr nf c fl)) X := by
  have w2 := w.row 2 2 312 (by decide)
  have hnr := hr.2.1
  have i6 : vp_in 6 (hK h (mo + 2)).2 := by rw [w2.2.2]; exact vp_in_nI (n := 6) (by decide) (by decide)
  have a6 : ∀ i, opA f c (nI fl) i 6 = nI nr := fun i => (opA_ne (by omega) i (fun r hr => ⟨by omega, by omega, by omega⟩)).trans hr.1
  have a7 : ∀ i, opA f c (nI fl) i 7 = nI m := fun i => (opA_ne (by omega) i (fun r hr => ⟨by omega, by omega, by omega⟩)).trans hr.2.2.2.2.2.1
  have a5 : ∀ i, Fok (opA f c (nI fl) i (16 + 8 * c + 5)).toUInt32 := fun i => by rw [opA_ne (by omega) i (fun r hr => ⟨by omega, by omega, by omega⟩)]; exact hw
  intro k
  induction k with
  | zero =>
    intro i hi
    obtain rfl : i = nr := by omega
    refine vX8_opens_9 ⟨w.1, mo + 2, w2.1, w2.2.1, i6, fun _ => l_opens75 FB w hc hfl ⟨a6 i, hnr, hr.2.2.1, hr.2.2.2.1, hr.2.2.2.2.1, a7 i, hr.2.2.2.2.2.2.1, hr.2.2.2.2.2.2.2⟩ hct (a5 i) ⟨rfl, rfl⟩, fun e => absurd ?_ e⟩
    rw [now6 (a6 i)]
    exact nI_le (Nat.le_refl _) (by omega)
  | succ k ih =>
    intro i hi
    have hlt : i < 24 := by omega
    have h1 := ih (i + 1) (by omega)
    rw [← nI_1] at h1
    refine vX8_opens_9 ⟨w.1, mo + 2, w2.1, w2.2.1, i6, fun e => absurd e ?_, fun _ => ⟨_, c_carOf (k := 3) w hc (by decide), ?_⟩⟩
    · rw [now6 (a6 i)]
      exact nI_ge (by omega) (by omega)
    · rintro _ _ ⟨rfl, rfl⟩
      refine ⟨fun e => ?_, fun e => ⟨w.1, _, c_of (k := 3) w hlt (by decide), ?_⟩⟩
      · rw [show opA f c (nI fl) (i + 1) = opA f c (nI fl) i from if_pos e] at h1
        exact h1
      · rintro _ _ ⟨rfl, rfl⟩
        refine ⟨fun e2 => ⟨w.1, _, c_carOf (k := 3) w hc (by decide), ?_⟩, fun e2 => ?_⟩
        · rintro _ _ ⟨rfl, rfl⟩
          refine ⟨w.1, _, c_putCar (k := 3) w hc (by decide), ?_⟩
          rintro _ rfl
          refine ⟨w.1, _, c_arrives w hlt, ?_⟩
          rintro _ rfl
          rw [show opA f c (nI fl) (i + 1) = arrivesR (up (opA f c (nI fl) i) (16 + 8 * c + 3) (opA f c (nI fl) i (16 + 8 * c + 3) &&& ((1 <<< (nI i &&& 31)) ^^^ (-1)))) i from (if_neg e).trans (if_pos e2)] at h1
          exact h1
        · rw [show opA f c (nI fl) (i + 1) = opA f c (nI fl) i from (if_neg e).trans (if_neg e2)] at h1
          exact h1
theorem c_opens {nr nf m c fl : Nat} (FB : FBits l x) (w : MW mo h) (hc : c < 4) (h0 : f (16 + 8 * c) = nI fl) (hfl : fl < 12) (hr : RV mo h f t nr nf m) (hct : ∀ k, hI h (mo + 6) k = ct k) (hw : Fok (f (16 + 8 * c + 5)).toUInt32) : CV l x mX8_opens 5 0 0 [.ref mo, .int (nI c)] (NW mo h f) (fun h' => h' = NW mo h (opensC f t ct nr nf c fl)) := by
  refine Cm.of (by decide) (Nat.le_of_ble_eq_true rfl) (vX8_opens_0 ⟨w.1, _, c_carOf (k := 0) w hc (by decide), ?_⟩)
  rintro _ _ ⟨rfl, rfl⟩
  rw [show f (16 + 8 * c + 0) = nI fl from h0]
  exact l_opens9 FB w hc hfl hr hct hw nr 0 (by omega)
end Ref8
