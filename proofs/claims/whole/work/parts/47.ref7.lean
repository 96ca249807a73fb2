/-! THE REFERENCE, SEVENTH PART: a car opens -/
def offR (g : Nat → Int32) (c r : Nat) (y : Int32) : Nat → Int32 :=
  if abit (g (16 + 8 * c + 3)) r = 0 then g else if g (48 + 9 * r + 3) = y then arrivesR (up g (16 + 8 * c + 3) (g (16 + 8 * c + 3) &&& ((1 <<< (nI r &&& 31)) ^^^ (-1)))) r else g
def opA (f : Nat → Int32) (c : Nat) (y : Int32) : Nat → (Nat → Int32)
  | 0 => f
  | r + 1 => offR (opA f c y r) c r y
def opWd (g : Nat → Int32) (nr nf c fl : Nat) (y : Int32) : Int32 := if hasC g c fl 1 = 0 then (if hasC g c fl (-1) = 0 then turnedC g nr nf c y else -1) else 1
def opW (g : Nat → Int32) (nr nf c fl : Nat) : Int32 :=
  if g (16 + 8 * c + 1) = 0 then opWd g nr nf c fl (g (16 + 8 * c + 1)) else if isStopC g nr nf c (g (16 + 8 * c + 1)) = 0 then (if hasC g c fl (g (16 + 8 * c + 1)) = 0 then opWd g nr nf c fl (g (16 + 8 * c + 1)) else g (16 + 8 * c + 1)) else g (16 + 8 * c + 1)
def onT (g : Nat → Int32) (c r : Nat) : Nat → Int32 := up (up (up g (16 + 8 * c + 3) (g (16 + 8 * c + 3) ||| (1 <<< (nI r &&& 31)))) (48 + 9 * r + 4) 2) (48 + 9 * r + 5) (nI c)
def onR (ct g : Nat → Int32) (c r : Nat) (y w : Int32) : Nat → Int32 :=
  if fullC g c = 0 ∧ g (48 + 9 * r + 4) = 1 ∧ g (48 + 9 * r + 5) = y ∧ wayR g r = w ∧ ¬ takesC ct c (g (48 + 9 * r)) = 0 then (if onT g c r (48 + 9 * r + 8) = -1 then up (onT g c r) (48 + 9 * r + 8) (onT g c r 0) else onT g c r) else g
def opB (ct g : Nat → Int32) (c : Nat) (y w : Int32) : Nat → (Nat → Int32)
  | 0 => g
  | r + 1 => onR ct (opB ct g c y w r) c r y w
def clr (ct g : Nat → Int32) (c fl : Nat) (w : Int32) (s : Nat) : Nat → Int32 := if takesC ct c (nI s) = 0 then g else up g (kix fl w s) 0
def opX (ct g : Nat → Int32) (c fl : Nat) (w : Int32) : Nat → Int32 := if w = 0 then g else clr ct (clr ct g c fl w 1) c fl w 2
def opG (f : Nat → Int32) (c fl nr : Nat) : Nat → Int32 := opA f c (nI fl) nr
def opH (f ct : Nat → Int32) (nr nf c fl : Nat) : Nat → Int32 := opB ct (up (opG f c fl nr) (16 + 8 * c + 1) (opW (opG f c fl nr) nr nf c fl)) c (nI fl) (opW (opG f c fl nr) nr nf c fl) nr
def opEnd (t ct g : Nat → Int32) (c fl : Nat) (w : Int32) : Nat → Int32 := worksC (up (opX ct g c fl w) (16 + 8 * c + 2) (tellsT t 3)) c 1053609165
def opensC (f t ct : Nat → Int32) (nr nf c fl : Nat) : Nat → Int32 := opEnd t ct (opH f ct nr nf c fl) c fl (opW (opG f c fl nr) nr nf c fl)
theorem offR_ne {g : Nat → Int32} {c r j : Nat} {y : Int32} (h3 : j ≠ 16 + 8 * c + 3) (h4 : j ≠ 48 + 9 * r + 4) (h5 : j ≠ 48 + 9 * r + 5) (h7 : j ≠ 48 + 9 * r + 7) : offR g c r y j = g j := by
  unfold offR
  split
  · rfl
  · split
    · unfold arrivesR
      rw [up_ne h7, up_ne h5, up_ne h4, up_ne h3]
    · rfl
theorem opA_ne {f : Nat → Int32} {c : Nat} {y : Int32} {j : Nat} (h3 : j ≠ 16 + 8 * c + 3) : ∀ i : Nat, (∀ r, r < i → j ≠ 48 + 9 * r + 4 ∧ j ≠ 48 + 9 * r + 5 ∧ j ≠ 48 + 9 * r + 7) → opA f c y i j = f j
  | 0, _ => rfl
  | i + 1, hj => by
    obtain ⟨h4, h5, h7⟩ := hj i (by omega)
    exact (offR_ne h3 h4 h5 h7).trans (opA_ne (f := f) (c := c) (y := y) h3 i (fun r hr => hj r (by omega)))
theorem onT_ne {g : Nat → Int32} {c r j : Nat} (h3 : j ≠ 16 + 8 * c + 3) (h4 : j ≠ 48 + 9 * r + 4) (h5 : j ≠ 48 + 9 * r + 5) : onT g c r j = g j := by
  unfold onT
  rw [up_ne h5, up_ne h4, up_ne h3]
theorem onR_ne {ct g : Nat → Int32} {c r j : Nat} {y w : Int32} (h3 : j ≠ 16 + 8 * c + 3) (h4 : j ≠ 48 + 9 * r + 4) (h5 : j ≠ 48 + 9 * r + 5) (h8 : j ≠ 48 + 9 * r + 8) : onR ct g c r y w j = g j := by
  unfold onR
  split
  · split
    · rw [up_ne h8, onT_ne h3 h4 h5]
    · rw [onT_ne h3 h4 h5]
  · rfl
theorem opB_ne {ct g : Nat → Int32} {c : Nat} {y w : Int32} {j : Nat} (h3 : j ≠ 16 + 8 * c + 3) : ∀ i : Nat, (∀ r, r < i → j ≠ 48 + 9 * r + 4 ∧ j ≠ 48 + 9 * r + 5 ∧ j ≠ 48 + 9 * r + 8) → opB ct g c y w i j = g j
  | 0, _ => rfl
  | i + 1, hj => by
    obtain ⟨h4, h5, h8⟩ := hj i (by omega)
    exact (onR_ne h3 h4 h5 h8).trans (opB_ne (ct := ct) (g := g) (c := c) (y := y) (w := w) h3 i (fun r hr => hj r (by omega)))
/-- full: nobody comes aboard any more -/
theorem opB_full {ct g : Nat → Int32} {c : Nat} {y w : Int32} {i : Nat} (hf : ¬ fullC (opB ct g c y w i) c = 0) : ∀ k : Nat, opB ct g c y w (i + k) = opB ct g c y w i
  | 0 => rfl
  | k + 1 => by
    have ih := opB_full (ct := ct) (g := g) (c := c) (y := y) (w := w) (i := i) hf k
    show onR ct (opB ct g c y w (i + k)) c (i + k) y w = _
    rw [ih]
    exact if_neg (fun q => hf q.1)
theorem kix_ge (fl s : Nat) (y : Int32) : 264 ≤ kix fl y s := by unfold kix; omega
theorem clr_ne {ct g : Nat → Int32} {c fl s j : Nat} {w : Int32} (hj : j < 264) : clr ct g c fl w s j = g j := by
  unfold clr
  split
  · rfl
  · exact up_ne (by have := kix_ge fl s w; omega)
theorem opX_ne {ct g : Nat → Int32} {c fl j : Nat} {w : Int32} (hj : j < 264) : opX ct g c fl w j = g j := by
  unfold opX
  split
  · rfl
  · rw [clr_ne hj, clr_ne hj]
section Ref7
variable {l : Launch} {x : CX} {mo : Nat} {h : PH} {f t ct : Nat → Int32}
theorem takes_ct {c : Nat} {s : Int32} (hct : ∀ k, hI h (mo + 6) k = ct k) (g : Nat → Int32) : takesC (hI (NW mo h g) (mo + 6)) c s = takesC ct c s := by
  have e : hI (NW mo h g) (mo + 6) (3 * c + 2) = ct (3 * c + 2) := by rw [hI_rw, if_neg (by omega), hct]
  simp only [takesC, e]
/-- the end of opens: doors, work -/
theorem l_opensE {c : Nat} {g : Nat → Int32} {Q : Option Value → PH → Prop} (FB : FBits l x) (w : MW mo h) (hc : c < 4) (ht : ∀ k, hI h (mo + 4) k = t k) (hw : Fok (g (16 + 8 * c + 5)).toUInt32) (hQ : Q none (NW mo h (worksC (up g (16 + 8 * c + 2) (tellsT t 3)) c 1053609165))) :
    (hK (NW mo h g) mo).1 = 8 ∧ ∃ q2 : Int32 → PH → Prop, CI l x mX8_tells 0 0 0 [.ref mo, .int 3] (NW mo h g) q2 ∧ ∀ (r6 : Int32) (h5 : PH), q2 r6 h5 → (hK h5 mo).1 = 8 ∧ ∃ q7 : PH → Prop, CV l x mX8_putCar 0 0 0 [.ref mo, .int (nI c), .int 2, .int r6] h5 q7 ∧ ∀ h10 : PH, q7 h10 → (hK h10 mo).1 = 8 ∧ ∃ q11 : PH → Prop, CV l x mX8_works 2 0 0 [.ref mo, .int (nI c), .float 1053609165] h10 q11 ∧ ∀ h14 : PH, q11 h14 → Q none h14 := by
  have et : tellsT (hI (NW mo h g) (mo + 4)) 3 = tellsT t 3 := by
    have e6 : hI (NW mo h g) (mo + 4) 3 = t 3 := by rw [hI_rw, if_neg (by omega), ht]
    simp only [tellsT, e6]
  refine ⟨w.1, _, c_tells (k := 3) (w.rw _ _) (by decide), ?_⟩
  rintro _ _ ⟨rfl, rfl⟩
  rw [et]
  refine ⟨w.1, _, c_putCar (k := 2) w hc (by decide), ?_⟩
  rintro _ rfl
  refine ⟨w.1, _, c_works (b := 1053609165) FB w hc (by rw [up_ne (by omega)]; exact hw) (show (1053609165 : UInt32).toNat ≤ 2139095040 by decide), ?_⟩
  rintro _ rfl
  exact hQ
theorem l_opens300 {c fl : Nat} {y z : Int32} {g : Nat → Int32} {rc rs n0 : Nat} {Q : Option Value → PH → Prop} {X : String → PH → Prop} (FB : FBits l x) (w : MW mo h) (hc : c < 4) (hfl : fl < 12) (ht : ∀ k, hI h (mo + 4) k = t k) (hct : ∀ k, hI h (mo + 6) k = ct k) (hw : Fok (g (16 + 8 * c + 5)).toUInt32) (hQ : Q none (NW mo h (opEnd t ct g c fl y))) : Gm l x mX8_opens 5 300 [(0, .ref mo), (1, .int (nI c)), (2, .int (nI fl)), (3, .int y), (4, .int z), (5, .int 1)] [] (NW mo h g) rc rs n0 Q X := by
  have w2 := w.row 2 2 312 (by decide)
  by_cases hy : y = 0
  · have hQ2 : Q none (NW mo h (worksC (up g (16 + 8 * c + 2) (tellsT t 3)) c 1053609165)) := by
      have e : opX ct g c fl y = g := if_pos hy
      unfold opEnd at hQ
      rw [e] at hQ
      exact hQ
    exact vX8_opens_300 ⟨fun e => absurd e (by decide), fun _ => ⟨fun _ => l_opensE FB w hc ht hw hQ2, fun q => absurd hy q⟩⟩
  · have step : ∀ (s : Nat) (g : Nat → Int32), 1 ≤ s → s ≤ 2 → Gm l x mX8_opens 5 300 [(0, .ref mo), (1, .int (nI c)), (2, .int (nI fl)), (3, .int y), (4, .int z), (5, .int (nI (s + 1)))] [] (NW mo h (clr ct g c fl y s)) rc rs n0 Q X → Gm l x mX8_opens 5 300 [(0, .ref mo), (1, .int (nI c)), (2, .int (nI fl)), (3, .int y), (4, .int z), (5, .int (nI s))] [] (NW mo h g) rc rs n0 Q X := by
      intro s g h1 h2 k
      rw [← nI_1] at k
      refine vX8_opens_300 ⟨fun e => absurd e (nI_ge (a := s) (b := 3) (by omega) (by decide)), fun _ => ⟨fun e => absurd e hy, fun _ => ⟨w.1, _, c_takes (w.rw _ _) hc, ?_⟩⟩⟩
      rintro _ _ ⟨rfl, rfl⟩
      rw [takes_ct hct]
      refine ⟨fun e => ?_, fun e => ⟨w.1, mo + 2, w2.1, _, c_callAt h1, ?_⟩⟩
      · rw [show clr ct g c fl y s = g from if_pos e] at k
        exact k
      · rintro _ _ ⟨rfl, rfl⟩
        have hk := kix_lt (y := y) hfl h1 h2
        refine ⟨w2.2.1, ?_, ?_⟩
        · show vp_in _ (hK h (mo + 2)).2
          rw [w2.2.2]
          exact vp_in_nI hk (by decide)
        · rw [nI_clamp (by omega), sI_rws]
          rw [show clr ct g c fl y s = up g (kix fl y s) 0 from if_neg e] at k
          exact k
    refine step 1 g (by decide) (by decide) (step 2 _ (by decide) (by decide) ?_)
    have hQ2 : Q none (NW mo h (worksC (up (clr ct (clr ct g c fl y 1) c fl y 2) (16 + 8 * c + 2) (tellsT t 3)) c 1053609165)) := by
      have e : opX ct g c fl y = clr ct (clr ct g c fl y 1) c fl y 2 := if_neg hy
      unfold opEnd at hQ
      rw [e] at hQ
      exact hQ
    exact vX8_opens_300 ⟨fun _ => l_opensE FB w hc ht (by rw [clr_ne (by omega), clr_ne (by omega)]; exact hw) hQ2, fun e => absurd (nI_le (a := 3) (b := 3) (by decide) (by decide)) e⟩
end Ref7
