/-! THE REFERENCE, TENTH PART: a contract over another heap that differs behind the rows' ends; what a call costs -/
theorem Cm.mono {l : Launch} {x : CX} {M : MD} {d mc ms : Nat} {a : List Value} {h : PH} {Q Q' : Option Value → PH → Prop} {X : String → PH → Prop} (hM : Cm l x M d mc ms a h Q X) (hq : ∀ v h', Q v h' → Q' v h') : Cm l x M d mc ms a h Q' X := by
  intro hx ad p e ha hc hk s m args below hf happ hP hK
  obtain ⟨n, o, h1, h2, h3, h4⟩ := hM hx ad p e ha hc hk s m args below hf happ hP hK
  refine ⟨n, o, h1, h2, h3, ?_⟩
  rcases h4 with ⟨⟨⟨v, h', ad', q1, q2, q3⟩, q4⟩, q5⟩ | h4
  · exact Or.inl ⟨⟨⟨v, h', ad', q1, hq v h' q2, q3⟩, q4⟩, q5⟩
  · exact Or.inr h4
theorem Cm.ext {l : Launch} {x : CX} {M : MD} {d mc ms : Nat} {a : List Value} {h h' : PH} {Q : Option Value → PH → Prop} {X : String → PH → Prop} (e9 : hEq h h') (hM : Cm l x M d mc ms a h' Q X) : Cm l x M d mc ms a h Q X := by
  intro hx ad p e ha hc hk s m args below hf happ hP hK
  obtain ⟨p1, p2, p3⟩ := hP
  obtain ⟨n, o, h1, h2, h3, h4⟩ := hM hx ad p e ha hc hk s m args below hf happ ⟨p1, p2.ext e9, p3.le (by rw [e9.1]; exact Nat.le_refl _)⟩ hK
  refine ⟨n, o, h1, h2, h3, ?_⟩
  rw [e9.1] at h4
  exact h4
theorem Gm.mono {l : Launch} {x : CX} {M : MD} {d pc : Nat} {lv : List (Nat × Value)} {st : List Value} {h : PH} {rc rs n0 : Nat} {Q Q' : Option Value → PH → Prop} {X : String → PH → Prop} (hq : ∀ v h', Q v h' → Q' v h') (k : Gm l x M d pc lv st h rc rs n0 Q X) : Gm l x M d pc lv st h rc rs n0 Q' X := by
  intro hx p e R s m args below meth c H locs cells slots mc ms ls ad ad0 hB h1 h2 h3 h4 h5 h6 hb hw hS ha hn hl hst hv T hT X9
  obtain ⟨t, a1, o, b1, b2, b3⟩ := k hx p e R s m args below meth c H locs cells slots mc ms ls ad ad0 hB h1 h2 h3 h4 h5 h6 hb hw hS ha hn hl hst hv T hT X9
  refine ⟨t, a1, o, b1, b2, ?_⟩
  rcases b3 with ⟨⟨⟨v, h', ad', q1, q2, q3⟩, q4⟩, q5⟩ | b3
  · exact Or.inl ⟨⟨⟨v, h', ad', q1, hq v h' q2, q3⟩, q4⟩, q5⟩
  · exact Or.inr b3
/-- rows that agree as far as they go -/
theorem hEq_row {g : PH} {a n : Nat} {u v : Nat → Int32} (ka : hK g a = (100, n)) (huv : ∀ j, j < n → u j = v j) : hEq (rw1 g a u) (rw1 g a v) := by
  refine ⟨rfl, fun _ => rfl, fun _ _ => rfl, fun _ _ => rfl, fun _ _ => rfl, fun b j => ?_⟩
  rw [hI_rw, hI_rw]
  by_cases hb : b = a
  · rw [if_pos hb, if_pos hb]
    by_cases hj : j < n
    · exact Or.inl (huv j hj).symm
    · refine Or.inr ⟨?_, ?_⟩
      · rw [hK_rw, hb, ka]; exact Nat.le_refl 100
      · rw [hK_rw, hb, ka]; omega
  · rw [if_neg hb, if_neg hb]
    exact Or.inl rfl
theorem rw_comm (h : PH) {a b : Nat} (hab : a ≠ b) (u v : Nat → Int32) : rw1 (rw1 h a u) b v = rw1 (rw1 h b v) a u := by
  simp only [rw1]
  congr 3
  funext c j
  by_cases hc : c = a
  · by_cases hb : c = b
    · exact absurd (hc.symm.trans hb) hab
    · simp [hc, hab]
  · by_cases hb : c = b
    · subst hb
      simp [hc]
    · simp [hc, hb]
def flo (f : Nat → Int32) (c : Nat) : Nat := (f (16 + 8 * c)).toNatClampNeg
def lod (f : Nat → Int32) (c : Nat) : Nat := (bc (f (16 + 8 * c + 3))).toNatClampNeg
def stR (t ct : Nat → Int32) (nr nf m c : Nat) (g : Nat → Int32) : Nat → Int32 := stepR g t ct nr nf m c (flo g c) (lod g c)
def stV (nr nf c : Nat) (g : Nat → Int32) : Int32 := stepV g nr nf c (flo g c)
/-- at which of the next k steps, the first of which is number i, the car opens at the floor y by the way z; 60: at none -/
def coA (t ct : Nat → Int32) (nr nf m c : Nat) (y z : Int32) : Nat → Nat → (Nat → Int32) → Int32
  | 0, _, _ => 60
  | k + 1, i, g => if stV nr nf c g = 0 then coA t ct nr nf m c y z k (i + 1) (stR t ct nr nf m c g) else if stR t ct nr nf m c g (16 + 8 * c) = y then (if stR t ct nr nf m c g (16 + 8 * c + 1) = z then nI i else coA t ct nr nf m c y z k (i + 1) (stR t ct nr nf m c g)) else coA t ct nr nf m c y z k (i + 1) (stR t ct nr nf m c g)
/-- rows over which a car's steps may be walked -/
def GoodC (mo : Nat) (h : PH) (t ct : Nat → Int32) (nr nf m c : Nat) (G : (Nat → Int32) → Prop) : Prop := (∀ g, G g → RV mo h g t nr nf m ∧ CVd g c (flo g c) (lod g c)) ∧ ∀ g, G g → G (stR t ct nr nf m c g)
/-- calls that aren't the car's are taken away, at the places below i -/
def kpA (f : Nat → Int32) (c i : Nat) : Nat → Int32 := fun j => if 264 ≤ j ∧ j < i then (if f j = nI c + 1 then f j else 0) else f j
def costC (t ct : Nat → Int32) (nr nf m c fl s : Nat) (z : Int32) (f : Nat → Int32) : Int32 := coA t ct nr nf m c (nI fl) z 60 0 (up (kpA f c 312) (kix fl z s) (nI c + 1))
section Ref10
variable {l : Launch} {x : CX} {mo : Nat} {h : PH} {f t ct : Nat → Int32}
theorem l_cost83 {nr nf m c : Nat} {y z so : Int32} {G : (Nat → Int32) → Prop} {rc rs n0 : Nat} {X : String → PH → Prop} (w : MW mo h) (hc : c < 4) (hG : GoodC mo h t ct nr nf m c G) (hct : ∀ k, hI h (mo + 6) k = ct k) (v : Int32) : ∀ (k i : Nat) (g : Nat → Int32) (d5 : Int32), i + k = 60 → G g → (d5 = 60 ∧ v = coA t ct nr nf m c y z k i g ∨ ¬ d5 = 60 ∧ v = d5) → Gm l x mX8_costOf 7 83 [(0, .ref mo), (1, .int (nI c)), (2, .int y), (3, .int z), (4, .int so), (5, .int d5), (6, .int (nI i))] [] (NW mo h g) rc rs n0 (fun v' h' => ∃ r, v' = some (.int r) ∧ r = v ∧ ∃ g', h' = NW mo h (cpy 312 (fun j => hI h (mo + 11) j) g')) X := by
  have w2 := w.row 2 2 312 (by decide)
  have w22 := w.row 22 11 312 (by decide)
  have ka : hK h (mo + 2) = (100, 312) := Prod.ext w2.2.1 w2.2.2
  have kb : hK h (mo + 11) = (100, 312) := Prod.ext w22.2.1 w22.2.2
  have back : ∀ g : Nat → Int32, CV l x mX8_copyTo 0 0 0 [.ref (mo + 2), .ref (mo + 11)] (NW mo h g) (fun h' => h' = NW mo h (cpy 312 (fun j => hI h (mo + 11) j) g)) := by
    intro g
    have h1 := c_copyTo (l := l) (x := x) (g := NW mo h g) (a := mo + 2) (b := mo + 11) (n := 312) (n' := 312) ka kb (Nat.le_refl _) (by decide) (by omega)
    have e1 : (fun j => hI (NW mo h g) (mo + 11) j) = fun j => hI h (mo + 11) j := funext fun j => by rw [hI_rw, if_neg (by omega)]
    have e2 : (fun j => hI (NW mo h g) (mo + 2) j) = g := funext fun j => hI_rws h (mo + 2) j g
    rw [e1, e2, rw_rw] at h1
    exact h1
  intro k
  induction k with
  | zero =>
    intro i g d5 hi _ hd
    refine vX8_costOf_83 ⟨fun _ => ⟨w.1, mo + 2, w2.1, mo + 11, w22.1, _, back g, ?_⟩, fun e => absurd ?_ e⟩
    · rintro _ rfl
      refine ⟨_, rfl, ?_, g, rfl⟩
      rcases hd with ⟨e1, e2⟩ | ⟨e1, e2⟩
      · rw [e1, e2]; rfl
      · exact e2.symm
    · exact nI_le (a := 60) (by omega) (by omega)
  | succ k ih =>
    intro i g d5 hi hg hd
    refine vX8_costOf_83 ⟨fun e => absurd e (nI_ge (b := 60) (by omega) (by decide)), fun _ => ⟨fun e => ⟨w.1, mo + 2, w2.1, mo + 11, w22.1, _, back g, ?_⟩, fun e => ?_⟩⟩
    · rintro _ rfl
      rcases hd with ⟨e1, e2⟩ | ⟨e1, e2⟩
      · exact absurd e1 e
      · exact ⟨_, rfl, e2.symm, g, rfl⟩
    · have hv : v = coA t ct nr nf m c y z (k + 1) i g := by
        rcases hd with ⟨e1, e2⟩ | ⟨e1, e2⟩
        · exact e2
        · exact absurd e e1
      obtain ⟨r1, r2⟩ := hG.1 g hg
      refine ⟨w.1, _, c_steps (fbits l x) w hc r1 r2 hct, ?_⟩
      rintro _ _ ⟨rfl, rfl⟩
      have next : coA t ct nr nf m c y z (k + 1) i g = coA t ct nr nf m c y z k (i + 1) (stR t ct nr nf m c g) → Gm l x mX8_costOf 7 83 [(0, .ref mo), (1, .int (nI c)), (2, .int y), (3, .int z), (4, .int so), (5, .int d5), (6, .int (nI i + 1))] [] (NW mo h (stR t ct nr nf m c g)) rc rs n0 (fun v' h' => ∃ r, v' = some (.int r) ∧ r = v ∧ ∃ g', h' = NW mo h (cpy 312 (fun j => hI h (mo + 11) j) g')) X := by
        intro e9
        rw [nI_1]
        exact ih (i + 1) _ d5 (by omega) (hG.2 g hg) (Or.inl ⟨e, hv.trans e9⟩)
      refine ⟨fun e1 => next (if_pos e1), fun e1 => ⟨w.1, _, c_carOf (k := 0) w hc (by decide), ?_⟩⟩
      rintro _ _ ⟨rfl, rfl⟩
      refine ⟨fun e2 => next ((if_neg e1).trans (if_neg e2)), fun e2 => ⟨w.1, _, c_carOf (k := 1) w hc (by decide), ?_⟩⟩
      rintro _ _ ⟨rfl, rfl⟩
      by_cases e3 : stR t ct nr nf m c g (16 + 8 * c + 1) = z
      · have h1 := ih (i + 1) (stR t ct nr nf m c g) (nI i) (by omega) (hG.2 g hg) (Or.inr ⟨fun q => by
          have := (nI_eq (a := i) (b := 60) (by omega) (by decide)).mp q
          omega, hv.trans ((if_neg e1).trans ((if_pos e2).trans (if_pos e3)))⟩)
        rw [← nI_1] at h1
        rw [if_pos (show stepR g t ct nr nf m c (flo g c) (lod g c) (16 + 8 * c + 1) = z from e3)]
        exact h1
      · rw [if_neg (show ¬ stepR g t ct nr nf m c (flo g c) (lod g c) (16 + 8 * c + 1) = z from e3)]
        exact next ((if_neg e1).trans ((if_pos e2).trans (if_neg e3)))
theorem kpA_step {c i : Nat} (hi : 264 ≤ i) (v : Int32) (hv : v = (if f i = nI c + 1 then f i else 0)) : up (kpA f c i) i v = kpA f c (i + 1) := by
  funext j
  simp only [up, kpA]
  by_cases h1 : j = i
  · rw [if_pos h1, if_pos ⟨by omega, by omega⟩, h1]
    exact hv
  · rw [if_neg h1]
    by_cases h2 : 264 ≤ j ∧ j < i
    · rw [if_pos h2, if_pos (show 264 ≤ j ∧ j < i + 1 from ⟨h2.1, by omega⟩)]
    · rw [if_neg h2, if_neg (show ¬ (264 ≤ j ∧ j < i + 1) from fun q => h2 ⟨q.1, by omega⟩)]
theorem l_cost16 {c : Nat} {y z so : Int32} {rc rs n0 : Nat} {Q : Option Value → PH → Prop} {X : String → PH → Prop} (w : MW mo h) (k : Gm l x mX8_costOf 7 16 [(0, .ref mo), (1, .int (nI c)), (2, .int y), (3, .int z), (4, .int so), (5, .int (nI 312))] [] (NW mo h (kpA f c 312)) rc rs n0 Q X) : ∀ (m i : Nat), i + m = 312 → 264 ≤ i → Gm l x mX8_costOf 7 16 [(0, .ref mo), (1, .int (nI c)), (2, .int y), (3, .int z), (4, .int so), (5, .int (nI i))] [] (NW mo h (kpA f c i)) rc rs n0 Q X := by
  have w2 := w.row 2 2 312 (by decide)
  intro m
  induction m with
  | zero =>
    intro i hi _
    obtain rfl : i = 312 := by omega
    exact k
  | succ m ih =>
    intro i hi h264
    have hin : vp_in (nI i) (hK h (mo + 2)).2 := by rw [w2.2.2]; exact vp_in_nI (by omega) (by decide)
    have e0 : kpA f c i i = f i := if_neg (fun q => by omega)
    have h1 := ih (i + 1) (by omega) (by omega)
    rw [← nI_1] at h1
    refine vX8_costOf_16 ⟨fun e => absurd e (nI_ge (b := 312) (by omega) (by decide)), fun _ => ⟨w.1, mo + 2, w2.1, w2.2.1, hin, ?_, ?_⟩⟩
    · rw [nI_clamp (by omega), hI_rws, e0, sI_rws]
      intro e
      rw [kpA_step h264 0 (if_neg e).symm]
      exact ⟨hin, h1⟩
    · rw [nI_clamp (by omega), hI_rws, e0, sI_rws]
      intro e
      rw [kpA_step h264 (f i) (if_pos e).symm]
      exact ⟨hin, hin, h1⟩
theorem c_costOf {nr nf m c fl s : Nat} {z : Int32} {G : (Nat → Int32) → Prop} (w : MW mo h) (hc : c < 4) (hfl : fl < 12) (h1 : 1 ≤ s) (h2 : s ≤ 2) (hG : GoodC mo h t ct nr nf m c G) (hg : G (up (kpA f c 312) (kix fl z s) (nI c + 1))) (hct : ∀ k, hI h (mo + 6) k = ct k) : CI l x mX8_costOf 7 0 0 [.ref mo, .int (nI c), .int (nI fl), .int z, .int (nI s)] (NW mo h f) (fun v h' => v = costC t ct nr nf m c fl s z f ∧ ∃ u g', h' = NW mo (rw1 h (mo + 11) u) (cpy 312 f g')) := by
  have w2 := w.row 2 2 312 (by decide)
  have w22 := w.row 22 11 312 (by decide)
  have ka : hK h (mo + 2) = (100, 312) := Prod.ext w2.2.1 w2.2.2
  have kb : hK h (mo + 11) = (100, 312) := Prod.ext w22.2.1 w22.2.2
  have hk := kix_lt (y := z) hfl h1 h2
  refine Cm.of (by decide) (Nat.le_of_ble_eq_true rfl) (vX8_costOf_0 ⟨w.1, mo + 11, w22.1, mo + 2, w2.1, _, c_copyTo (g := NW mo h f) (n := 312) (n' := 312) kb ka (Nat.le_refl _) (by decide) (by omega), ?_⟩)
  rintro _ rfl
  rw [rw_comm h (a := mo + 2) (b := mo + 11) (by omega)]
  have e1 : (fun j => hI (NW mo h f) (mo + 2) j) = f := funext fun j => hI_rws h (mo + 2) j f
  rw [e1]
  generalize hu : cpy 312 f (fun j => hI (NW mo h f) (mo + 11) j) = u
  have hG2 : GoodC mo (rw1 h (mo + 11) u) t ct nr nf m c G := by
    have e4 : ∀ k, hI (rw1 h (mo + 11) u) (mo + 4) k = hI h (mo + 4) k := fun k => by rw [hI_rw, if_neg (by omega)]
    refine ⟨fun g hg => ?_, hG.2⟩
    obtain ⟨⟨q1, q2, q3, q4, q5, q6, q7, q8⟩, q9⟩ := hG.1 g hg
    exact ⟨⟨q1, q2, (e4 0).trans q3, q4, q5, q6, q7, fun k => (e4 k).trans (q8 k)⟩, q9⟩
  have hct2 : ∀ k, hI (rw1 h (mo + 11) u) (mo + 6) k = ct k := fun k => by rw [hI_rw, if_neg (by omega)]; exact hct k
  have w' : MW mo (rw1 h (mo + 11) u) := w
  have fin := l_cost83 (l := l) (x := x) (rc := 0) (rs := 0) (n0 := hN (NW mo h f)) (X := fun _ _ => False) (y := nI fl) (z := z) (so := nI s) w' hc hG2 hct2 (costC t ct nr nf m c fl s z f) 60 0 (up (kpA f c 312) (kix fl z s) (nI c + 1)) 60 rfl hg (Or.inl ⟨rfl, rfl⟩)
  have e3 : ∀ g', cpy 312 (fun j => hI (rw1 h (mo + 11) u) (mo + 11) j) g' = cpy 312 f g' := by
    intro g'
    funext j
    simp only [cpy, hI_rws]
    by_cases hj : j < 312
    · rw [if_pos hj, if_pos hj, ← hu]
      exact if_pos hj
    · rw [if_neg hj, if_neg hj]
  have e2 : kpA f c 264 = f := funext fun j => if_neg (fun q => by omega)
  have q := l_cost16 (l := l) (x := x) (rc := 0) (rs := 0) (n0 := hN (NW mo h f)) (Q := fun v h' => ∃ r, v = some (.int r) ∧ r = costC t ct nr nf m c fl s z f ∧ ∃ u g', h' = NW mo (rw1 h (mo + 11) u) (cpy 312 f g')) (X := fun _ _ => False) (c := c) (y := nI fl) (z := z) (so := nI s) (h := rw1 h (mo + 11) u) (f := f) w' (vX8_costOf_16 ⟨fun _ => ⟨w.1, mo + 2, w2.1, _, c_callAt h1, ?_⟩, fun e => absurd (nI_le (a := 312) (b := 312) (by decide) (by decide)) e⟩) 48 264 (by decide) (Nat.le_refl _)
  · rw [e2] at q
    exact q
  · rintro _ _ ⟨rfl, rfl⟩
    refine ⟨w2.2.1, ?_, ?_⟩
    · show vp_in _ (hK h (mo + 2)).2
      rw [w2.2.2]
      exact vp_in_nI hk (by decide)
    · rw [nI_clamp (by omega), sI_rws]
      refine Gm.mono ?_ fin
      rintro v h' ⟨r, e5, e6, g', e7⟩
      exact ⟨r, e5, e6, u, g', by rw [e7, e3]⟩
end Ref10
