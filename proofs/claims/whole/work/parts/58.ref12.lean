/-! THE REFERENCE: a tick, ticks -/
/-- the first r riders have come, if it was their time -/
def cmA (f : Nat → Int32) : Nat → (Nat → Int32)
  | 0 => f
  | r + 1 => if cmA f r (48 + 9 * r + 4) = 0 then (if cmA f r (48 + 9 * r + 1) = cmA f r 0 then comC (cmA f r) r else cmA f r) else cmA f r
def clK (f : Nat → Int32) (i : Nat) : Nat → Int32 := fun j => if 264 ≤ j ∧ j < i then 0 else f j
def gv4 (t ct : Nat → Int32) (nr nf nc m fl : Nat) (f : Nat → Int32) : Nat → (Nat → Int32)
  | 0 => f
  | k + 1 => givC t ct nr nf nc m fl (1 + k % 2) (if 2 ≤ k then -1 else 1) (gv4 t ct nr nf nc m fl f k)
def gvA (t ct : Nat → Int32) (nr nf nc m : Nat) (f : Nat → Int32) : Nat → (Nat → Int32)
  | 0 => f
  | i + 1 => gv4 t ct nr nf nc m i (gvA t ct nr nf nc m f i) 4
/-- the first c cars have done their step, or fled a fire -/
def caA (t ct : Nat → Int32) (nr nf m : Nat) (fire : Int32) (f : Nat → Int32) : Nat → (Nat → Int32)
  | 0 => f
  | c + 1 => if caA t ct nr nf m fire f c (16 + 8 * c + 4) = 0 then caA t ct nr nf m fire f c else if fire = 0 then stR t ct nr nf m c (caA t ct nr nf m fire f c) else burnsC (caA t ct nr nf m fire f c) c nr (lod (caA t ct nr nf m fire f c) c)
def wtA (f : Nat → Int32) : Nat → (Nat → Int32)
  | 0 => f
  | r + 1 => if wtA f r (48 + 9 * r + 4) = 1 then up (wtA f r) (48 + 9 * r + 6) (wtA f r (48 + 9 * r + 6) + 1) else wtA f r
def fireC (f : Nat → Int32) : Int32 := if f 1 = 1 then 1 else 0
/-- calls taken back, or given -/
def tkB (t ct : Nat → Int32) (nr nf nc m : Nat) (f : Nat → Int32) : Nat → Int32 := if fireC f = 0 then gvA t ct nr nf nc m f nf else clK f 312
def tkC (t ct : Nat → Int32) (nr nf nc m : Nat) (f : Nat → Int32) : Nat → Int32 := caA t ct nr nf m (fireC f) (tkB t ct nr nf nc m f) nc
def tkD (f : Nat → Int32) (nr : Nat) : Nat → Int32 := wtA (up f 0 (f 0 + 1)) nr
def tickC (t ct : Nat → Int32) (nr nf nc : Nat) (f : Nat → Int32) : Nat → Int32 := tkD (tkC t ct nr nf nc (mm (cmA f nr)) (cmA f nr)) nr
def ticksC (t ct : Nat → Int32) (nr nf nc : Nat) (f : Nat → Int32) : Nat → (Nat → Int32)
  | 0 => f
  | n + 1 => tickC t ct nr nf nc (ticksC t ct nr nf nc f n)
section Ref12
variable {l : Launch} {x : CX} {mo : Nat} {h : PH} {f t ct : Nat → Int32} {nc nf nr m : Nat}
theorem com_GI {r : Nat} (g : GI nc f) : GI nc (comC f r) := by
  unfold GI
  rw [com_lo (by omega) (by omega), com_lo (by omega) (by omega), com_lo (by omega) (by omega)]
  unfold cmG
  have e : ∀ j, j < 48 → up (up f (48 + 9 * r + 4) 1) (48 + 9 * r + 5) (f (48 + 9 * r + 2)) j = f j := fun j hj => by rw [up_ne (by omega), up_ne (by omega)]
  rw [e 1 (by omega), e 2 (by omega), e 4 (by omega)]
  exact g
theorem cmA_ok (I : Inv ct nc nf nr m f) (g : GI nc f) : ∀ r, r ≤ nr → ∃ m', Inv ct nc nf nr m' (cmA f r) ∧ GI nc (cmA f r)
  | 0, _ => ⟨m, I, g⟩
  | r + 1, h => by
    obtain ⟨m', I', g'⟩ := cmA_ok I g r (by omega)
    unfold cmA
    split
    · rename_i e
      split
      · exact ⟨m' + 1, I'.com (by omega) e, com_GI g'⟩
      · exact ⟨m', I', g'⟩
    · exact ⟨m', I', g'⟩
theorem clK_step {i : Nat} (hi : 264 ≤ i) : up (clK f i) i 0 = clK f (i + 1) := by
  funext j
  unfold up clK
  by_cases e : j = i
  · rw [if_pos e, if_pos (by omega)]
  · rw [if_neg e]
    by_cases q : 264 ≤ j ∧ j < i
    · rw [if_pos q, if_pos (by omega)]
    · rw [if_neg q, if_neg (by omega)]
theorem Inv.i_clK (I : Inv ct nc nf nr m f) : ∀ i, i ≤ 48 → Inv ct nc nf nr m (clK f (264 + i))
  | 0, _ => by
    rw [show clK f (264 + 0) = f from funext fun j => if_neg (fun q => by omega)]
    exact I
  | i + 1, h => by
    have ih := Inv.i_clK I i (by omega)
    rw [show 264 + (i + 1) = 264 + i + 1 from rfl, ← clK_step (by omega)]
    exact ih.setK0 (by omega)
theorem clK_GI {i : Nat} (g : GI nc f) : GI nc (clK f i) := by
  have e : ∀ j, j < 264 → clK f i j = f j := fun j hj => if_neg (by omega)
  unfold GI
  rw [e 1 (by omega), e 2 (by omega), e 4 (by omega)]
  exact g
theorem gv4_ok {fl : Nat} (I : Inv ct nc nf nr m f) (g : GI nc f) (hfl : fl < nf) : ∀ k, k ≤ 4 → Inv ct nc nf nr m (gv4 t ct nr nf nc m fl f k) ∧ GI nc (gv4 t ct nr nf nc m fl f k)
  | 0, _ => ⟨I, g⟩
  | k + 1, h => by
    obtain ⟨a, b⟩ := gv4_ok (fl := fl) I g hfl k (by omega)
    exact a.giv b hfl (by omega) (by omega)
theorem gvA_ok (I : Inv ct nc nf nr m f) (g : GI nc f) : ∀ i, i ≤ nf → Inv ct nc nf nr m (gvA t ct nr nf nc m f i) ∧ GI nc (gvA t ct nr nf nc m f i)
  | 0, _ => ⟨I, g⟩
  | i + 1, h => by
    obtain ⟨a, b⟩ := gvA_ok I g i (by omega)
    exact gv4_ok a b (by omega) 4 (by omega)
theorem tkB_ok (I : Inv ct nc nf nr m f) (g : GI nc f) : Inv ct nc nf nr m (tkB t ct nr nf nc m f) ∧ GI nc (tkB t ct nr nf nc m f) := by
  unfold tkB
  split
  · exact gvA_ok I g nf (Nat.le_refl _)
  · exact ⟨I.i_clK 48 (by omega), clK_GI g⟩
/-- what cars' steps leave alone: places 1 to 4 -/
theorem lo_off {c r : Nat} {y : Int32} {j : Nat} (hj : j < 16) : offR f c r y j = f j := by
  unfold offR arrivesR
  split
  · rfl
  · split
    · rw [up_ne (by omega), up_ne (by omega), up_ne (by omega), up_ne (by omega)]
    · rfl
theorem lo_opA {c : Nat} {y : Int32} {j : Nat} (hj : j < 16) : ∀ r, opA f c y r j = f j
  | 0 => rfl
  | r + 1 => by unfold opA; rw [lo_off hj, lo_opA hj r]
theorem lo_on {c r : Nat} {y w : Int32} {j : Nat} (hj : j < 16) : onR ct f c r y w j = f j := by
  unfold onR onT
  split
  · split
    · rw [up_ne (by omega), up_ne (by omega), up_ne (by omega), up_ne (by omega)]
    · rw [up_ne (by omega), up_ne (by omega), up_ne (by omega)]
  · rfl
theorem lo_opB {c : Nat} {y w : Int32} {j : Nat} (hj : j < 16) : ∀ r, opB ct f c y w r j = f j
  | 0 => rfl
  | r + 1 => by unfold opB; rw [lo_on hj, lo_opB hj r]
theorem lo_opX {c fl : Nat} {w : Int32} {j : Nat} (hj : j < 16) : opX ct f c fl w j = f j := by
  have e : ∀ (g : Nat → Int32) (s : Nat), clr ct g c fl w s j = g j := fun g s => by
    unfold clr
    split
    · rfl
    · rw [up_ne (by unfold kix; omega)]
  unfold opX
  split
  · rfl
  · rw [e, e]
theorem lo_opens {c fl : Nat} {j : Nat} (hj : j < 16) : opensC f t ct nr nf c fl j = f j := by
  unfold opensC opEnd worksC opH opG
  rw [up_ne (by omega), up_ne (by omega), lo_opX hj, lo_opB hj, up_ne (by omega), lo_opA hj]
theorem lo_moves {c n : Nat} {y : Int32} {j : Nat} (hj : j < 16) : movesC f c n y j = f j := by
  unfold movesC worksC
  rw [up_ne (by omega), up_ne (by omega)]
theorem lo_goes {c fl n k : Nat} {j : Nat} (hj : j < 16) (h5 : j ≠ 5) : goesC f t nr nf k c fl n j = f j := by
  unfold goesC goesD
  split
  · split
    · rw [up_ne (by omega)]
    · rw [lo_moves hj, up_ne (by omega)]
  · split
    · rw [lo_moves hj, up_ne (by omega)]
    · split
      · rw [lo_moves hj, up_ne (by omega)]
      · rw [lo_moves hj, up_ne (by omega), up_ne (by omega)]
theorem lo_stG {c : Nat} {j : Nat} (hj : j < 16) : stepG f c j = f j := by
  unfold stepG
  split
  · rfl
  · rw [up_ne (by omega)]
theorem lo_stR {c k : Nat} {j : Nat} (hj : j < 16) (h5 : j ≠ 5) : stR t ct nr nf k c f j = f j := by
  unfold stR stepR
  split
  · split
    · rw [lo_goes hj h5, lo_stG hj]
    · rw [lo_opens hj, lo_stG hj]
  · rw [lo_stG hj]
theorem lo_burns {c n : Nat} {j : Nat} (hc : c < 4) (hj : j < 16) : burnsC f c nr n j = f j := by
  unfold burnsC
  split
  · rw [em_lo (by omega) (by omega), up_ne (by omega), up_ne (by omega)]
  · rw [lo_moves hj, up_ne (by omega), up_ne (by omega)]
theorem lo_caA {fire : Int32} {j : Nat} (hj : j < 16) (h5 : j ≠ 5) : ∀ c, c ≤ 4 → caA t ct nr nf m fire f c j = f j
  | 0, _ => rfl
  | c + 1, h => by
    have ih := lo_caA (fire := fire) hj h5 c (by omega)
    unfold caA
    split
    · exact ih
    · split
      · rw [lo_stR hj h5]; exact ih
      · rw [lo_burns (by omega) hj]; exact ih
theorem caA_ok {fire : Int32} (hT : Tok t nf) (I : Inv ct nc nf nr m f) : ∀ c, c ≤ nc → Inv ct nc nf nr m (caA t ct nr nf m fire f c)
  | 0, _ => I
  | c + 1, h => by
    have ih := caA_ok (fire := fire) hT I c (by omega)
    unfold caA
    split
    · exact ih
    · split
      · exact ih.i_stR hT (by omega)
      · exact ih.burns (by omega)
theorem wtA_ok (I : Inv ct nc nf nr m f) : ∀ r, r ≤ nr → Inv ct nc nf nr m (wtA f r)
  | 0, _ => I
  | r + 1, h => by
    have ih := wtA_ok I r (by omega)
    have := I.hr
    unfold wtA
    split
    · exact ih.upR (r := r) (j := 6) (by omega) rfl (by omega) (by omega)
    · exact ih
theorem lo_wtA {j : Nat} (hj : j < 48) : ∀ r, wtA f r j = f j
  | 0 => rfl
  | r + 1 => by
    have ih := lo_wtA hj r
    unfold wtA
    split
    · rw [up_ne (by omega)]; exact ih
    · exact ih
theorem tickC_ok (hT : Tok t nf) (I : Inv ct nc nf nr m f) (g : GI nc f) : ∃ m', Inv ct nc nf nr m' (tickC t ct nr nf nc f) ∧ GI nc (tickC t ct nr nf nc f) := by
  obtain ⟨m', I', g'⟩ := cmA_ok I g nr (Nat.le_refl _)
  have hC := I.hc
  unfold tickC
  rw [I'.i_mm]
  obtain ⟨I2, g2⟩ := tkB_ok (t := t) I' g'
  have I3 : Inv ct nc nf nr m' (tkC t ct nr nf nc m' (cmA f nr)) := caA_ok hT I2 nc (Nat.le_refl _)
  refine ⟨m', wtA_ok (I3.upL (by omega) (by omega) (by omega)) nr (Nat.le_refl _), ?_⟩
  have e : ∀ j, j < 16 → j ≠ 5 → j ≠ 0 → tkD (tkC t ct nr nf nc m' (cmA f nr)) nr j = tkB t ct nr nf nc m' (cmA f nr) j := fun j h1 h5 h0 => by
    unfold tkD tkC
    rw [lo_wtA (by omega), up_ne h0, lo_caA h1 h5 nc hC]
  unfold GI
  rw [e 1 (by omega) (by omega) (by omega), e 2 (by omega) (by omega) (by omega), e 4 (by omega) (by omega) (by omega)]
  exact g2
theorem ticksC_ok (hT : Tok t nf) (I : Inv ct nc nf nr m f) (g : GI nc f) : ∀ n, ∃ m', Inv ct nc nf nr m' (ticksC t ct nr nf nc f n) ∧ GI nc (ticksC t ct nr nf nc f n)
  | 0 => ⟨m, I, g⟩
  | n + 1 => by
    obtain ⟨m', I', g'⟩ := ticksC_ok hT I g n
    exact tickC_ok hT I' g'
/-- what a tick has for its end -/
abbrev TQ (mo : Nat) (h0 : PH) (F : Nat → Int32) : Option Value → PH → Prop := fun v h' => v = none ∧ ∃ h2, SB [11] mo h0 h2 ∧ h' = NW mo h2 F
theorem l_tick207 {y : Int32} {h0 : PH} {rc rs n0 : Nat} {X : String → PH → Prop} (w0 : MW mo h0) (h6 : f 6 = nI nr) (hr4 : nr ≤ 24) {h : PH} (hs : SB [11] mo h0 h) : ∀ (j r : Nat), r + j = nr → Gm l x mX8_tick 10 207 [(0, .ref mo), (1, .int y), (2, .int (nI r))] [] (NW mo h (wtA f r)) rc rs n0 (TQ mo h0 (wtA f nr)) X := by
  have w := hs.mw w0
  have w2 := w.row 2 2 312 (by decide)
  have i6 : vp_in 6 (hK h (mo + 2)).2 := by rw [w2.2.2]; exact vp_in_nI (n := 6) (by decide) (by decide)
  have n6 : ∀ r, hI (NW mo h (wtA f r)) (mo + 2) (Int32.toNatClampNeg 6) = nI nr := fun r => (nowI 6).trans ((lo_wtA (by omega) r).trans h6)
  intro j
  induction j with
  | zero =>
    intro r hr
    obtain rfl : r = nr := by omega
    refine vX8_tick_207 ⟨w.1, mo + 2, w2.1, w2.2.1, i6, fun _ => ⟨rfl, h, hs, rfl⟩, fun e => absurd ?_ e⟩
    rw [n6]
    exact nI_le (Nat.le_refl _) (by omega)
  | succ j ih =>
    intro r hr
    have h9 := ih (r + 1) (by omega)
    refine vX8_tick_207 ⟨w.1, mo + 2, w2.1, w2.2.1, i6, fun e => absurd e ?_, fun _ => ⟨_, c_of (k := 4) w (by omega) (by decide), ?_⟩⟩
    · rw [n6]
      exact nI_ge (by omega) (by omega)
    · rintro _ _ ⟨rfl, rfl⟩
      rw [wtA, ← nI_1] at h9
      refine ⟨fun e => ?_, fun e => ⟨w.1, _, c_of (k := 6) w (by omega) (by decide), ?_⟩⟩
      · rw [if_neg e] at h9
        exact h9
      · rw [if_pos e] at h9
        rintro _ _ ⟨rfl, rfl⟩
        refine ⟨w.1, _, c_put (k := 6) w (by omega) (by decide), ?_⟩
        rintro _ rfl
        exact h9
theorem l_tick149 {y : Int32} {h0 : PH} {rc rs n0 : Nat} {X : String → PH → Prop} (hT : TK t nc nf) (w0 : RW mo t ct h0) (I : Inv ct nc nf nr m f) {h : PH} (hs : SB [11] mo h0 h) : ∀ (j c : Nat), c + j = nc → Gm l x mX8_tick 10 149 [(0, .ref mo), (1, .int y), (2, .int (nI c))] [] (NW mo h (caA t ct nr nf m y f c)) rc rs n0 (TQ mo h0 (tkD (caA t ct nr nf m y f nc) nr)) X := by
  have wr := w0.b hs
  have w := wr.1
  have hC := I.hc
  have hF := I.hF
  have w2 := w.row 2 2 312 (by decide)
  have w4 := w.row 4 4 7 (by decide)
  have i1 : vp_in 1 (hK h (mo + 4)).2 := by rw [w4.2.2]; exact vp_in_nI (n := 1) (by decide) (by decide)
  have i0 : vp_in 0 (hK h (mo + 2)).2 := by rw [w2.2.2]; exact vp_in_nI (n := 0) (by decide) (by decide)
  have t1 : ∀ g : Nat → Int32, hI (NW mo h g) (mo + 4) (Int32.toNatClampNeg 1) = nI nc := fun g => (toldI 1).trans ((wr.2.1 1).trans hT.2)
  have n0' : ∀ g : Nat → Int32, hI (NW mo h g) (mo + 2) (Int32.toNatClampNeg 0) = g 0 := fun g => nowI 0
  intro j
  induction j with
  | zero =>
    intro c hc
    obtain rfl : c = nc := by omega
    have I3 := (caA_ok (fire := y) hT.1 I c (Nat.le_refl _))
    refine vX8_tick_149 ⟨w.1, mo + 4, w4.1, w4.2.1, i1, fun _ => ⟨mo + 2, w2.1, w2.2.1, i0, i0, ?_⟩, fun e => absurd ?_ e⟩
    · rw [n0', sI_rws]
      exact l_tick207 (f := up (caA t ct nr nf m y f c) 0 (caA t ct nr nf m y f c 0 + 1)) w0.1 ((up_ne (by omega)).trans I3.h6) I.hr hs nr 0 (by omega)
    · rw [t1]
      exact nI_le (Nat.le_refl _) (by omega)
  | succ j ih =>
    intro c hc
    have h9 := ih (c + 1) (by omega)
    have I3 := (caA_ok (fire := y) hT.1 I c (by omega))
    rw [caA, ← nI_1] at h9
    refine vX8_tick_149 ⟨w.1, mo + 4, w4.1, w4.2.1, i1, fun e => absurd e ?_, fun _ => ⟨_, c_carOf (k := 4) w (by omega) (by decide), ?_⟩⟩
    · rw [t1]
      exact nI_ge (by omega) (by omega)
    · rintro _ _ ⟨rfl, rfl⟩
      refine ⟨fun e => ⟨fun e2 => ⟨w.1, _, c_steps (fbits l x) w (by omega) (I3.rv hT.1.1 wr.2.1) (I3.cvd (by omega)) wr.2.2, ?_⟩, fun e2 => ⟨w.1, _, c_burns (fbits l x) w (by omega) I3.h6 I3.hr (I3.cvd (by omega)), ?_⟩⟩, fun e => ?_⟩
      · rintro _ _ ⟨rfl, rfl⟩
        rw [if_neg e, if_pos e2] at h9
        exact h9
      · rintro _ rfl
        rw [if_neg e, if_neg e2] at h9
        exact h9
      · rw [if_pos e] at h9
        exact h9
theorem l_tick110 {h0 : PH} {fl : Nat} {rc rs n0 : Nat} {Q : Option Value → PH → Prop} {X : String → PH → Prop} (hT : TK t nc nf) (w0 : RW mo t ct h0) (I : Inv ct nc nf nr m f) (g : GI nc f) (hfl : fl < nf) (K : ∀ h, SB [11] mo h0 h → Gm l x mX8_tick 10 94 [(0, .ref mo), (1, .int 0), (2, .int (nI (fl + 1)))] [] (NW mo h (gv4 t ct nr nf nc m fl f 4)) rc rs n0 Q X) : ∀ (j k : Nat) (h : PH), k + j = 4 → SB [11] mo h0 h → Gm l x mX8_tick 10 110 [(0, .ref mo), (1, .int 0), (2, .int (nI fl)), (3, .int (nI k))] [] (NW mo h (gv4 t ct nr nf nc m fl f k)) rc rs n0 Q X := by
  intro j
  induction j with
  | zero =>
    intro k h hk hs
    obtain rfl : k = 4 := by omega
    refine vX8_tick_110 ⟨fun _ => ?_, fun e => absurd (by decide) e⟩
    rw [nI_1]
    exact K h hs
  | succ j ih =>
    intro k h hk hs
    obtain ⟨I2, g2⟩ := gv4_ok (t := t) (fl := fl) I g hfl k (by omega)
    have wr := w0.b hs
    refine vX8_tick_110 ⟨fun e => absurd e (nI_ge (b := 4) (by omega) (by decide)), fun _ => ⟨wr.1.1, ?_⟩⟩
    have e1 : (1 : Int32) + (nI k - nI k / 2 * 2) = nI (1 + k % 2) := by
      show nI 1 + (nI k - nI k / nI 2 * nI 2) = _
      rw [pk_rem (by omega) (by omega) (by omega), nI_add]
    have e2 : (if 2 ≤ nI k then (-1) else 1 : Int32) = (if 2 ≤ k then -1 else 1) := by
      by_cases q : 2 ≤ k
      · rw [if_pos q, if_pos (show (2 : Int32) ≤ nI k from nI_le (a := 2) q (by omega))]
      · rw [if_neg q, if_neg (show ¬ (2 : Int32) ≤ nI k from nI_ge (b := 2) (by omega) (by omega))]
    rw [e1, e2]
    refine ⟨_, c_gives wr hT I2 g2 hfl (by omega) (by omega), ?_⟩
    rintro _ ⟨h3, hs3, rfl⟩
    rw [nI_1]
    exact ih (k + 1) h3 (by omega) (hs.trans hs3)
theorem l_tick94 {h0 : PH} {rc rs n0 : Nat} {X : String → PH → Prop} (hT : TK t nc nf) (w0 : RW mo t ct h0) (I : Inv ct nc nf nr m f) (g : GI nc f) : ∀ (j k : Nat) (h : PH), k + j = nf → SB [11] mo h0 h → Gm l x mX8_tick 10 94 [(0, .ref mo), (1, .int 0), (2, .int (nI k))] [] (NW mo h (gvA t ct nr nf nc m f k)) rc rs n0 (TQ mo h0 (tkD (caA t ct nr nf m 0 (gvA t ct nr nf nc m f nf) nc) nr)) X := by
  have hF := I.hF
  intro j
  induction j with
  | zero =>
    intro k h hk hs
    obtain rfl : k = nf := by omega
    have wr := w0.b hs
    have w4 := wr.1.row 4 4 7 (by decide)
    have i0 : vp_in 0 (hK h (mo + 4)).2 := by rw [w4.2.2]; exact vp_in_nI (n := 0) (by decide) (by decide)
    have t0 : ∀ g : Nat → Int32, hI (NW mo h g) (mo + 4) (Int32.toNatClampNeg 0) = nI k := fun g => (toldI 0).trans ((wr.2.1 0).trans hT.1.1)
    refine vX8_tick_94 ⟨wr.1.1, mo + 4, w4.1, w4.2.1, i0, fun _ => ?_, fun e => absurd ?_ e⟩
    · exact l_tick149 (y := 0) hT w0 (gvA_ok I g k (Nat.le_refl _)).1 hs nc 0 (by omega)
    · rw [t0]
      exact nI_le (Nat.le_refl _) (by omega)
  | succ j ih =>
    intro k h hk hs
    have wr := w0.b hs
    have w4 := wr.1.row 4 4 7 (by decide)
    have i0 : vp_in 0 (hK h (mo + 4)).2 := by rw [w4.2.2]; exact vp_in_nI (n := 0) (by decide) (by decide)
    have t0 : ∀ g : Nat → Int32, hI (NW mo h g) (mo + 4) (Int32.toNatClampNeg 0) = nI nf := fun g => (toldI 0).trans ((wr.2.1 0).trans hT.1.1)
    obtain ⟨I2, g2⟩ := gvA_ok (t := t) I g k (by omega)
    refine vX8_tick_94 ⟨wr.1.1, mo + 4, w4.1, w4.2.1, i0, fun e => absurd e ?_, fun _ => ⟨fun e => absurd rfl e, fun _ => ?_⟩⟩
    · rw [t0]
      exact nI_ge (by omega) (by omega)
    · exact l_tick110 hT w0 I2 g2 (by omega) (fun h2 hs2 => ih (k + 1) h2 (by omega) hs2) 4 0 h rfl hs
theorem l_tick68 {h0 : PH} {rc rs n0 : Nat} {X : String → PH → Prop} (hT : TK t nc nf) (w0 : RW mo t ct h0) (I : Inv ct nc nf nr m f) (g : GI nc f) {h : PH} (hs : SB [11] mo h0 h) : Gm l x mX8_tick 10 68 [(0, .ref mo), (1, .int (fireC f)), (2, .int 264)] [] (NW mo h f) rc rs n0 (TQ mo h0 (tkD (tkC t ct nr nf nc m f) nr)) X := by
  have hF := I.hF
  have wr := w0.b hs
  have w2 := wr.1.row 2 2 312 (by decide)
  unfold tkC tkB
  by_cases e : f 1 = 1
  · rw [show fireC f = 1 from if_pos e, if_neg (by decide)]
    have loop : ∀ (j i : Nat), i + j = 312 → 264 ≤ i → Gm l x mX8_tick 10 68 [(0, .ref mo), (1, .int 1), (2, .int (nI i))] [] (NW mo h (clK f i)) rc rs n0 (TQ mo h0 (tkD (caA t ct nr nf m 1 (clK f 312) nc) nr)) X := by
      intro j
      induction j with
      | zero =>
        intro i hi _
        obtain rfl : i = 312 := by omega
        have w4 := wr.1.row 4 4 7 (by decide)
        have i0 : vp_in 0 (hK h (mo + 4)).2 := by rw [w4.2.2]; exact vp_in_nI (n := 0) (by decide) (by decide)
        have k149 := l_tick149 (l := l) (x := x) (rc := rc) (rs := rs) (n0 := n0) (X := X) (y := 1) hT w0 (I.i_clK 48 (by omega)) hs nc 0 (by omega)
        exact vX8_tick_68 ⟨fun _ => vX8_tick_94 ⟨wr.1.1, mo + 4, w4.1, w4.2.1, i0, fun _ => k149, fun _ => ⟨fun _ => k149, fun e => absurd e (by decide)⟩⟩, fun e => absurd (by decide) e⟩
      | succ j ih =>
        intro i hi h264
        have hin : vp_in (nI i) (hK h (mo + 2)).2 := by rw [w2.2.2]; exact vp_in_nI (by omega) (by decide)
        refine vX8_tick_68 ⟨fun e => absurd e (nI_ge (b := 312) (by omega) (by decide)), fun _ => ⟨fun e => absurd e (by decide), fun _ => ⟨wr.1.1, mo + 2, w2.1, w2.2.1, hin, ?_⟩⟩⟩
        rw [nI_clamp (by omega), sI_rws, clK_step h264, nI_1]
        exact ih (i + 1) (by omega) (by omega)
    have h9 := loop 48 264 rfl (by omega)
    rw [show clK f 264 = f from funext fun j => if_neg (fun q => by omega)] at h9
    exact h9
  · rw [show fireC f = 0 from if_neg e, if_pos rfl]
    exact vX8_tick_68 ⟨fun e => absurd e (by decide), fun _ => ⟨fun _ => l_tick94 hT w0 I g nf 0 h (by omega) hs, fun e => absurd rfl e⟩⟩
theorem cmA_6 (I : Inv ct nc nf nr m f) (g : GI nc f) (r : Nat) (hr : r ≤ nr) : cmA f r 6 = nI nr := by
  obtain ⟨m', I', _⟩ := cmA_ok I g r hr
  exact I'.h6
theorem c_tick (w : RW mo t ct h) (hT : TK t nc nf) (I : Inv ct nc nf nr m f) (g : GI nc f) : CV l x mX8_tick 10 0 0 [.ref mo] (NW mo h f) (fun h' => ∃ h2, SB [11] mo h h2 ∧ h' = NW mo h2 (tickC t ct nr nf nc f)) := by
  have hr4 := I.hr
  have w2 := w.1.row 2 2 312 (by decide)
  have i6 : vp_in 6 (hK h (mo + 2)).2 := by rw [w2.2.2]; exact vp_in_nI (n := 6) (by decide) (by decide)
  have i1 : vp_in 1 (hK h (mo + 2)).2 := by rw [w2.2.2]; exact vp_in_nI (n := 1) (by decide) (by decide)
  have i0 : vp_in 0 (hK h (mo + 2)).2 := by rw [w2.2.2]; exact vp_in_nI (n := 0) (by decide) (by decide)
  have loop : ∀ (j r : Nat), r + j = nr → Gm l x mX8_tick 10 2 [(0, .ref mo), (1, .int (nI r))] [] (NW mo h (cmA f r)) 0 0 (hN (NW mo h f)) (TQ mo h (tickC t ct nr nf nc f)) (fun _ _ => False) := by
    intro j
    induction j with
    | zero =>
      intro r hr
      obtain rfl : r = nr := by omega
      obtain ⟨m', I', g'⟩ := cmA_ok I g r (Nat.le_refl _)
      refine vX8_tick_2 ⟨w.1.1, mo + 2, w2.1, w2.2.1, i6, fun _ => ⟨i1, fun y hy => ?_⟩, fun e => absurd ?_ e⟩
      · rw [show hI (NW mo h (cmA f r)) (mo + 2) (Int32.toNatClampNeg 1) = cmA f r 1 from nowI 1] at hy
        subst hy
        have h9 := l_tick68 (l := l) (x := x) (rc := 0) (rs := 0) (n0 := hN (NW mo h f)) (X := fun _ _ => False) hT w I' g' (SB.refl [11] mo h)
        rw [← I'.i_mm] at h9
        exact h9
      · rw [show hI (NW mo h (cmA f r)) (mo + 2) (Int32.toNatClampNeg 6) = nI r from (nowI 6).trans (cmA_6 I g r (Nat.le_refl _))]
        exact nI_le (Nat.le_refl _) (by omega)
    | succ j ih =>
      intro r hr
      have h9 := ih (r + 1) (by omega)
      obtain ⟨m', I', g'⟩ := cmA_ok I g r (by omega)
      have hm := I'.mlt
      rw [cmA, ← nI_1] at h9
      refine vX8_tick_2 ⟨w.1.1, mo + 2, w2.1, w2.2.1, i6, fun e => absurd e ?_, fun _ => ⟨_, c_of (k := 4) w.1 (by omega) (by decide), ?_⟩⟩
      · rw [show hI (NW mo h (cmA f r)) (mo + 2) (Int32.toNatClampNeg 6) = nI nr from (nowI 6).trans (cmA_6 I g r (by omega))]
        exact nI_ge (by omega) (by omega)
      · rintro _ _ ⟨rfl, rfl⟩
        refine ⟨fun e => ?_, fun e => ⟨w.1.1, _, c_of (k := 1) w.1 (by omega) (by decide), ?_⟩⟩
        · rw [if_neg e] at h9
          exact h9
        · rintro _ _ ⟨rfl, rfl⟩
          rw [if_pos e] at h9
          refine ⟨w.1.1, mo + 2, w2.1, w2.2.1, i0, ?_⟩
          rw [show hI (NW mo h (cmA f r)) (mo + 2) (Int32.toNatClampNeg 0) = cmA f r 0 from nowI 0]
          refine ⟨fun e2 => ?_, fun e2 => ⟨_, c_comes w.1 (by omega) I'.h7 (by omega), ?_⟩⟩
          · rw [if_neg e2] at h9
            exact h9
          · rintro _ rfl
            rw [if_pos e2] at h9
            exact h9
  exact Cm.of (by decide) (Nat.le_of_ble_eq_true rfl) (vX8_tick_0 (loop nr 0 (by omega)))
theorem c_ticksNow {n : Nat} (w : RW mo t ct h) (hT : TK t nc nf) (I : Inv ct nc nf nr m f) (g : GI nc f) (hn : n < 100000) : CV l x mX8_ticksNow 11 0 0 [.ref mo, .int (nI n)] (NW mo h f) (fun h' => ∃ h2, SB [11] mo h h2 ∧ h' = NW mo h2 (ticksC t ct nr nf nc f n)) := by
  have loop : ∀ (j k : Nat) (h1 : PH), k + j = n → SB [11] mo h h1 → Gm l x mX8_ticksNow 11 2 [(0, .ref mo), (1, .int (nI n)), (2, .int (nI k))] [] (NW mo h1 (ticksC t ct nr nf nc f k)) 0 0 (hN (NW mo h f)) (TQ mo h (ticksC t ct nr nf nc f n)) (fun _ _ => False) := by
    intro j
    induction j with
    | zero =>
      intro k h1 hk hs
      obtain rfl : k = n := by omega
      exact vX8_ticksNow_2 ⟨fun _ => ⟨rfl, h1, hs, rfl⟩, fun e => absurd (nI_le (Nat.le_refl _) (by omega)) e⟩
    | succ j ih =>
      intro k h1 hk hs
      obtain ⟨m', I', g'⟩ := ticksC_ok hT.1 I g k
      refine vX8_ticksNow_2 ⟨fun e => absurd e (nI_ge (by omega) (by omega)), fun _ => ⟨(w.b hs).1.1, _, c_tick (w.b hs) hT I' g', ?_⟩⟩
      rintro _ ⟨h3, hs3, rfl⟩
      rw [nI_1]
      exact ih (k + 1) h3 (by omega) (hs.trans hs3)
  exact Cm.of (by decide) (Nat.le_of_ble_eq_true rfl) (vX8_ticksNow_0 (loop n 0 h (by omega) (SB.refl _ _ _)))
end Ref12
