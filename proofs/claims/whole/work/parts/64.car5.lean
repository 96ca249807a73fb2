/-! THE CLASS: a car goes; its move -/
section CarGo
variable {l : Launch} {x : CX} {h : PH} {a o c nc nf nr m : Nat} {f g t ct : Nat → Int32}
def goD (g : Nat → Int32) (c fl n : Nat) (rest y : Int32) : Nat → Int32 :=
  if y = 0 then (if g (16 + 8 * c) = rest then g else movesC g c n (if rest ≤ g (16 + 8 * c) then -1 else 1)) else if fullC g c = 0 then movesC g c n y else if hasC g c fl y = 0 then movesC g c n y else movesC (up g 5 (g 5 + 1)) c n y
theorem goD_goes {k fl n : Nat} {y : Int32} : goesD g t k c fl n y = goD g c fl n (parksC g t (min 8 k) c) y := rfl
theorem CG.same {h' : PH} {g' : Nat → Int32} {z : Nat} (G : CG h a nr g c z) (e : hL h' a 11 = hL h a 11) (e1 : g' (16 + 8 * c + 3) = g (16 + 8 * c + 3)) (e2 : ∀ r, r < nr → g' (48 + 9 * r + 3) = g (48 + 9 * r + 3)) : CG h' a nr g' c z := by
  intro i hi hz
  rw [e, e1, G i hi hz]
  constructor
  · rintro ⟨r, z1, z2, z3⟩
    exact ⟨r, z1, z2, by rw [e2 r z1]; exact z3⟩
  · rintro ⟨r, z1, z2, z3⟩
    rw [e2 r z1] at z3
    exact ⟨r, z1, z2, z3⟩
theorem CO.moves {n : Nat} {y : Int32} {b : UInt32} (C : CO h a ct nr g c) (hc : c < 4) (hr : nr ≤ 24) (hb : b = if y ≤ 0 then dnW n else upW n) : CO (sF (sI h a 3 (hI h a 3 + y)) a 7 (FP.fadd (hF h a 7) b)) a ct nr (movesC g c n y) c := by
  obtain ⟨⟨q1, q2, q3, q4, q5, q6, q7, q8, q9, q10, q11, q12⟩, G⟩ := C
  subst hb
  refine ⟨?_, G.same rfl ?_ ?_⟩
  · unfold CB movesC worksC
    simp (disch := omega) only [up_ne, up_eq]
    refine ⟨q1, ?_, ?_, ?_, ?_, ?_, ?_, ?_, ?_, ?_, ?_, q12⟩
    · rw [hI_sF, gIk _ _ _ (by decide)]; exact q2
    · rw [hI_sF, gIk _ _ _ (by decide)]; exact q3
    · rw [hI_sF, gIk _ _ _ (by decide)]; exact q4
    · rw [hI_sF, gI, q5]
    · rw [hI_sF, gIk _ _ _ (by decide)]; exact q6
    · rw [hI_sF, gIk _ _ _ (by decide)]; exact q7
    · rw [hI_sF, gIk _ _ _ (by decide)]; exact q8
    · rw [gF, q9]; rfl
    · rw [hI_sF, gIk _ _ _ (by decide)]; exact q10
    · rw [hI_sF, gIk _ _ _ (by decide)]; exact q11
  · unfold movesC worksC
    rw [up_ne (by omega), up_ne (by omega)]
  · intro r hr
    unfold movesC worksC
    rw [up_ne (by omega), up_ne (by omega)]
theorem CO.up5 {v w : Int32} (C : CO h a ct nr g c) (hc : c < 4) : CO (sI h a 8 v) a ct nr (up g 5 w) c := by
  obtain ⟨⟨q1, q2, q3, q4, q5, q6, q7, q8, q9, q10, q11, q12⟩, G⟩ := C
  refine ⟨?_, G.same rfl (up_ne (by omega)) (fun r hr => up_ne (by omega))⟩
  unfold CB
  simp (disch := omega) only [up_ne, up_eq]
  refine ⟨q1, ?_, ?_, ?_, ?_, ?_, ?_, ?_, q9, ?_, ?_, q12⟩
  · rw [gIk _ _ _ (by decide)]; exact q2
  · rw [gIk _ _ _ (by decide)]; exact q3
  · rw [gIk _ _ _ (by decide)]; exact q4
  · rw [gIk _ _ _ (by decide)]; exact q5
  · rw [gIk _ _ _ (by decide)]; exact q6
  · rw [gIk _ _ _ (by decide)]; exact q7
  · rw [gIk _ _ _ (by decide)]; exact q8
  · rw [gIk _ _ _ (by decide)]; exact q10
  · rw [gIk _ _ _ (by decide)]; exact q11
def gsp (g : Nat → Int32) (c : Nat) (rest : Int32) : Int32 := if g (16 + 8 * c + 1) = 0 then (if rest = g (16 + 8 * c) then g (16 + 8 * c + 1) else (if rest ≤ g (16 + 8 * c) then -1 else 1)) else g (16 + 8 * c + 1)
/-- what a car's going changes of its object, beside what the row says -/
def GP (a : Nat) (h h' : PH) (d : Int32) : Prop := Fr1 a h h' ∧ hI h' a 13 = hI h a 13 ∧ hI h' a 14 = hI h a 14 ∧ hI h' a 8 = hI h a 8 + d
theorem l_go77 {rest v2 d : Int32} {v3 : Int64} {h0 : PH} {rc rs n0 : Nat} {X : String → PH → Prop} (C : CO h a ct nr g c) (I : Inv ct nc nf nr m g) (hc : c < nc) (hp : GP a h0 h d) : Gm l x mX2_go 0 77 [(0, .ref a), (1, .int rest), (2, .int v2), (3, .long v3)] [] h rc rs n0 (fun v h' => v = none ∧ GP a h0 h' d ∧ CO h' a ct nr (if gsp g c rest = 0 then g else movesC g c (lod g c) (gsp g c rest)) c) X := by
  have hC := I.hc
  have hR := I.hr
  obtain ⟨ln, l7⟩ := I.i_lod hc
  have wk := (I.cars c hc).wk
  have W := wOk (lod g c) l7
  have ew : hF h a 7 = (g (16 + 8 * c + 5)).toUInt32 := C.1.wk
  have el : hI h a 10 = nI (lod g c) := C.1.ld.trans ln
  have wyr : hI h a 4 = g (16 + 8 * c + 1) := C.1.wy
  have flr : hI h a 3 = g (16 + 8 * c) := C.1.fl
  have es : (if (hI h a 4) = 0 then (if rest = (hI h a 3) then (hI h a 4) else (if rest ≤ (hI h a 3) then (-1) else 1 : Int32) : Int32) else (hI h a 4) : Int32) = gsp g c rest := by rw [wyr, flr]; rfl
  have s3 : gsp g c rest = 0 ∨ gsp g c rest = 1 ∨ gsp g c rest = -1 := by
    unfold gsp
    split
    · split
      · exact (I.cars c hc).wy
      · split
        · exact Or.inr (Or.inr rfl)
        · exact Or.inr (Or.inl rfl)
    · exact (I.cars c hc).wy
  have gp : ∀ (v : Int32) (b : UInt32), GP a h0 (sF (sI h a 3 v) a 7 b) d := fun v b => by
    refine ⟨(hp.1.sI _ _).sF _ _, ?_, ?_, ?_⟩
    · rw [hI_sF, gIk _ _ _ (by decide)]; exact hp.2.1
    · rw [hI_sF, gIk _ _ _ (by decide)]; exact hp.2.2.1
    · rw [hI_sF, gIk _ _ _ (by decide)]; exact hp.2.2.2
  refine vX2_go_77 ⟨C.1.ck, ?_⟩
  rw [es]
  rcases s3 with e | e | e
  · rw [e, if_pos rfl]
    refine ⟨fun _ => ⟨fun _ => ⟨rfl, ⟨hp.1.sI _ _, ?_, ?_, ?_⟩, ?_, ?_⟩, fun q => absurd (by decide) q⟩, fun q => absurd (by decide) q⟩
    · rw [gIk _ _ _ (by decide)]; exact hp.2.1
    · rw [gIk _ _ _ (by decide)]; exact hp.2.2.1
    · rw [gIk _ _ _ (by decide)]; exact hp.2.2.2
    · refine C.1.same (fun _ _ => rfl) (fun _ _ => rfl) rfl (fun k hk => ?_) rfl rfl
      by_cases k3 : k = 3
      · rw [k3, gI, Int32.add_zero]
      · rw [gIk _ _ _ k3]
    · exact C.2
  · rw [e, if_neg (by decide)]
    refine ⟨fun q => absurd q (by decide), fun _ => ?_⟩
    rw [el]
    refine ⟨Fok.n W.1, Fok.n W.2.2.1, ?_, rfl, gp _ _, ?_⟩
    · rw [ew]; exact Fok.n (fadd_ok wk W.2.2.1)
    · exact C.moves (by omega) hR (by rw [if_neg (by decide)]; rfl)
  · rw [e, if_neg (by decide)]
    refine ⟨fun _ => ⟨fun q => absurd q (by decide), fun _ => ?_⟩, fun q => absurd (by decide) q⟩
    rw [el]
    refine ⟨Fok.n W.2.1, Fok.n W.2.2.2, ?_, rfl, gp _ _, ?_⟩
    · rw [ew]; exact Fok.n (fadd_ok wk W.2.2.2)
    · exact C.moves (by omega) hR (by rw [if_pos (by decide)]; rfl)
theorem k_go {rest : Int32} (C : CO h a ct nr g c) (I : Inv ct nc nf nr m g) (hc : c < nc) : CV l x mX2_go 0 0 0 [.ref a, .int rest] h (fun h' => CO h' a ct nr (goD g c (flo g c) (lod g c) rest (g (16 + 8 * c + 1))) c ∧ ∃ d, GP a h h' d ∧ goD g c (flo g c) (lod g c) rest (g (16 + 8 * c + 1)) 5 = g 5 + d) := by
  have hC := I.hc
  have hF := I.hF
  obtain ⟨f1, f2⟩ := I.i_flo hc
  have g5 : ∀ (u : Nat → Int32) (n : Nat) (y : Int32), movesC u c n y 5 = u 5 := fun u n y => lo_moves (by omega)
  have p0 : GP a h h 0 := ⟨Fr1.refl _ _, rfl, rfl, (Int32.add_zero _).symm⟩
  have plain : (g (16 + 8 * c + 1) = 0 ∨ fullC g c = 0 ∨ hasC g c (flo g c) (g (16 + 8 * c + 1)) = 0) → (if gsp g c rest = 0 then g else movesC g c (lod g c) (gsp g c rest)) = goD g c (flo g c) (lod g c) rest (g (16 + 8 * c + 1)) := by
    intro q
    unfold goD gsp
    by_cases w0 : g (16 + 8 * c + 1) = 0
    · rw [if_pos w0, if_pos w0]
      by_cases e : rest = g (16 + 8 * c)
      · rw [if_pos e, if_pos w0, if_pos e.symm]
      · rw [if_neg e, if_neg (show ¬ g (16 + 8 * c) = rest from fun z => e z.symm), if_neg (show ¬ (if rest ≤ g (16 + 8 * c) then -1 else 1 : Int32) = 0 by split <;> decide)]
    · rw [if_neg w0, if_neg w0, if_neg w0]
      rcases q with z | z | z
      · exact absurd z w0
      · rw [if_pos z]
      · split
        · rfl
        · first | rfl | rw [if_pos z]
  have go : ∀ (v2 : Int32) (v3 : Int64), (g (16 + 8 * c + 1) = 0 ∨ fullC g c = 0 ∨ hasC g c (flo g c) (g (16 + 8 * c + 1)) = 0) → Gm l x mX2_go 0 77 [(0, .ref a), (1, .int rest), (2, .int v2), (3, .long v3)] [] h 0 0 (hN h) (fun v h' => v = none ∧ CO h' a ct nr (goD g c (flo g c) (lod g c) rest (g (16 + 8 * c + 1))) c ∧ ∃ d, GP a h h' d ∧ goD g c (flo g c) (lod g c) rest (g (16 + 8 * c + 1)) 5 = g 5 + d) (fun _ _ => False) := by
    intro v2 v3 q
    refine Gm.mono ?_ (l_go77 (v2 := v2) (v3 := v3) (rest := rest) C I hc p0)
    rintro v h' ⟨z1, z2, z3⟩
    refine ⟨z1, by rw [← plain q]; exact z3, 0, z2, ?_⟩
    rw [← plain q, Int32.add_zero]
    split
    · rfl
    · exact g5 _ _ _
  refine Cm.of (by decide) (Nat.le_of_ble_eq_true rfl) (vX2_go_0 ⟨C.1.ck, fun y5 h5 => ⟨fun e => go _ _ ?_, fun e => ⟨fun e2 => go _ _ ?_, fun e2 => ?_⟩⟩⟩)
  · refine Or.inr (Or.inl ((C.1.full2 I hc).mpr ?_))
    by_cases q : hI h a 10 < hI h a 2
    · exact q
    · rw [if_neg q] at e; exact absurd e (by decide)
  · change y5 = ansL (hI h a 4) at h5
    rw [C.1.wy] at h5
    rcases (I.cars c hc).wy with w | w | w
    · exact Or.inl w
    · refine Or.inr (Or.inr ?_)
      rw [w] at h5 ⊢
      rw [h5] at e2
      exact Classical.byContradiction fun z => (C.1.here3 I hc).mpr z e2
    · refine Or.inr (Or.inr ?_)
      rw [w] at h5 ⊢
      rw [h5] at e2
      exact Classical.byContradiction fun z => (C.1.here12 I hc).mpr z e2
  · change y5 = ansL (hI h a 4) at h5
    rw [C.1.wy] at h5
    have nfull : ¬ fullC g c = 0 := fun q => e (if_pos ((C.1.full2 I hc).mp q))
    have hw0 : ¬ g (16 + 8 * c + 1) = 0 := fun w => by
      rw [w] at h5
      rw [h5, show ansL 0 = 0 from rfl, lg0] at e2
      refine e2 (bL_zero.mpr fun i hi => ?_)
      rw [bL_and, bL_0, Bool.and_false]
    have hh : ¬ hasC g c (flo g c) (g (16 + 8 * c + 1)) = 0 := by
      rcases (I.cars c hc).wy with w | w | w
      · exact absurd w hw0
      · rw [w] at h5 ⊢
        rw [h5] at e2
        exact (C.1.here3 I hc).mp e2
      · rw [w] at h5 ⊢
        rw [h5] at e2
        exact (C.1.here12 I hc).mp e2
    have eG : goD g c (flo g c) (lod g c) rest (g (16 + 8 * c + 1)) = movesC (up g 5 (g 5 + 1)) c (lod g c) (g (16 + 8 * c + 1)) := by
      unfold goD
      rw [if_neg hw0, if_neg nfull, if_neg hh]
    have I5 : Inv ct nc nf nr m (up g 5 (g 5 + 1)) := I.upL (by omega) (by omega) (by omega)
    have p1 : GP a h (sI h a 8 (hI h a 8 + 1)) 1 := ⟨(Fr1.refl _ _).sI _ _, gIk _ _ _ (by decide), gIk _ _ _ (by decide), gI _ _ _ _⟩
    have lE : lod (up g 5 (g 5 + 1)) c = lod g c := by unfold lod; rw [up_ne (by omega)]
    have sE : gsp (up g 5 (g 5 + 1)) c rest = g (16 + 8 * c + 1) := by
      unfold gsp
      rw [up_ne (by omega), up_ne (by omega), if_neg hw0]
    refine Gm.mono ?_ (l_go77 (rest := rest) (C.up5 (by omega)) I5 hc p1)
    rintro v h' ⟨z1, z2, z3⟩
    rw [sE, lE, if_neg hw0] at z3
    refine ⟨z1, by rw [eG]; exact z3, 1, z2, ?_⟩
    rw [eG, g5, up_eq]
end CarGo
