/-! ROWS: a tick keeps it; a row that sleeps -/
section Aw2
variable {c nc nf nr m : Nat} {f f' g u t ct : Nat → Int32}
theorem AwI.cm (q : AwI f nr) (hn : nr ≤ 24) : ∀ r, r ≤ nr → AwI (cmA f r) nr
  | 0, _ => q
  | r + 1, h => by
    have ih := AwI.cm q hn r (by omega)
    unfold cmA
    split
    · rename_i e
      split
      · exact ih.com (by omega) hn e
      · exact ih
    · exact ih
theorem AwI.i_gv4 {fl : Nat} (q : AwI f nr) (hn : nr ≤ 24) (hfl : fl < 12) : ∀ k, AwI (gv4 t ct nr nf nc m fl f k) nr
  | 0 => q
  | k + 1 => by
    have ih := AwI.i_gv4 (fl := fl) q hn hfl k
    refine ih.giv hn ?_ (by omega) (by omega) hfl
    split
    · exact Or.inr rfl
    · exact Or.inl rfl
theorem AwI.i_gvA (q : AwI f nr) (hn : nr ≤ 24) (hf : nf ≤ 12) : ∀ i, i ≤ nf → AwI (gvA t ct nr nf nc m f i) nr
  | 0, _ => q
  | i + 1, h => (AwI.i_gvA q hn hf i (by omega)).i_gv4 hn (by omega) 4
theorem bu_hi {n i : Nat} (hc : c < 4) (hn : nr ≤ 24) : burnsC u c nr n (264 + i) = u (264 + i) := by
  unfold burnsC
  split
  · rw [em_hi hc (by omega) hn, up_ne (by omega), up_ne (by omega)]
  · rw [pl_moves (by omega) (by omega), up_ne (by omega), up_ne (by omega)]
theorem ca_hi1 (hC : nc ≤ 4) (hn : nr ≤ 24) : ∀ c, c ≤ nc → ∀ i, i < 48 → caA t ct nr nf m 1 (clK g 312) c (264 + i) = 0
  | 0, _, i, hi => if_pos (by omega)
  | c + 1, h, i, hi => by
    have ih := ca_hi1 hC hn c (by omega) i hi
    unfold caA
    split
    · exact ih
    · rw [if_neg (by decide), bu_hi (by omega) hn]
      exact ih
theorem AwI.ca0 (hT : Tok t nf) (q : AwI g nr) (I : Inv ct nc nf nr m g) : ∀ c, c ≤ nc → AwI (caA t ct nr nf m 0 g c) nr
  | 0, _ => q
  | c + 1, h => by
    have ih := AwI.ca0 hT q I c (by omega)
    unfold caA
    split
    · exact ih
    · rw [if_pos rfl]
      exact ih.i_stR (caA_ok hT I c (by omega)) (by omega)
theorem wtA_pl {j : Nat} (hj : ∀ r, r < 24 → j ≠ 48 + 9 * r + 6) : ∀ r, r ≤ 24 → wtA f r j = f j
  | 0, _ => rfl
  | r + 1, h => by
    have ih := wtA_pl hj r (by omega)
    unfold wtA
    split
    · rw [up_ne (hj r (by omega))]; exact ih
    · exact ih
theorem AwI.tick (hT : Tok t nf) (q : AwI f nr) (I : Inv ct nc nf nr m f) (g : GI nc f) : AwI (tickC t ct nr nf nc f) nr := by
  have hC := I.hc
  have hR := I.hr
  have hF12 := I.hF
  obtain ⟨m', I', g'⟩ := cmA_ok I g nr (Nat.le_refl _)
  have q1 := q.cm hR nr (Nat.le_refl _)
  have q3 : AwI (tkC t ct nr nf nc m' (cmA f nr)) nr := by
    unfold tkC tkB
    by_cases e : cmA f nr 1 = 1
    · rw [show fireC (cmA f nr) = 1 from if_pos e, if_neg (by decide)]
      intro i hi hne
      exact absurd (ca_hi1 hC hR nc (Nat.le_refl _) i hi) hne
    · rw [show fireC (cmA f nr) = 0 from if_neg e, if_pos rfl]
      exact AwI.ca0 hT (q1.i_gvA hR hF12 nf (Nat.le_refl _)) (gvA_ok I' g' nf (Nat.le_refl _)).1 nc (Nat.le_refl _)
  unfold tickC tkD
  rw [I'.i_mm]
  refine q3.same (fun i hi => Or.inl ?_) fun r hr h1 => ?_
  · rw [wtA_pl (fun r hr => by omega) nr hR, up_ne (by omega)]
  · rw [wtA_pl (fun r hr => by omega) nr hR, wtA_pl (fun r hr => by omega) nr hR, wtA_pl (fun r hr => by omega) nr hR, wtA_pl (fun r hr => by omega) nr hR, up_ne (by omega), up_ne (by omega), up_ne (by omega), up_ne (by omega)]
    exact ⟨h1, rfl, rfl, rfl⟩
/-- a row asleep -/
def AsP (t : Nat → Int32) (nc nr : Nat) (f : Nat → Int32) : Prop := ¬ f 1 = 1 ∧ QP t nc nr f ∧ ∀ c, c < nc → f (16 + 8 * c + 1) = 0
theorem tick_as (I : Inv ct nc nf nr m f) (q : AwI f nr) (A : AsP t nc nr f) : tickC t ct nr nf nc f = up f 0 (f 0 + 1) := by
  obtain ⟨nofire, Q, W⟩ := A
  have hC := I.hc
  have hR := I.hr
  have hF12 := I.hF
  have all3 : ∀ r, r < nr → f (48 + 9 * r + 4) = 3 := fun r hr => by
    have := fb_ct_all.mp Q.1 r hr
    exact of_decide_eq_true this
  have cm : ∀ r, r ≤ nr → cmA f r = f := by
    intro r
    induction r with
    | zero => intro _; rfl
    | succ r ih =>
      intro h
      rw [cmA, ih (by omega), if_neg (by rw [all3 r (by omega)]; decide)]
  have nok : ∀ i, i < 48 → f (264 + i) = 0 := fun i hi => Classical.byContradiction fun z => by
    obtain ⟨r, a1, a2, _⟩ := q i hi z
    rw [all3 r a1] at a2
    exact absurd a2 (by decide)
  have ic : ∀ a b d, icA f a b d nr = 0 := fun a b d => Classical.byContradiction fun z => by
    obtain ⟨r, a1, a2, _⟩ := (icA_iff nr).mp z
    rw [all3 r a1] at a2
    exact absurd a2 (by decide)
  have gv4E : ∀ mm fl k, gv4 t ct nr nf nc mm fl f k = f := by
    intro mm fl k
    induction k with
    | zero => rfl
    | succ k ih =>
      rw [gv4, ih]
      exact if_pos (ic _ _ _)
  have gvE : ∀ mm k, gvA t ct nr nf nc mm f k = f := by
    intro mm k
    induction k with
    | zero => rfl
    | succ k ih => rw [gvA, ih, gv4E]
  have st1 : ∀ c, c < nc → ¬ f (16 + 8 * c + 4) = 0 → stR t ct nr nf m c f = f := by
    intro c hc hin
    have w0 := W c hc
    rcases Q.2 c hc with z | ⟨z1, z2⟩
    · exact absurd z hin
    have sG : stepG f c = f := by
      unfold stepG
      rw [if_pos (by rw [z1]; decide)]
    have nob : ∀ r, r < 32 → bt (f (16 + 8 * c + 3)) r = false := fun r hr => by
      cases e : bt (f (16 + 8 * c + 3)) r with
      | false => rfl
      | true =>
        obtain ⟨y1, y2, _⟩ := I.abo c hc r hr e
        rw [all3 r y1] at y2
        exact absurd y2 (by decide)
    have h0 : ∀ j y, j < 12 → y = 1 ∨ y = -1 → hasC f c j y = 0 := by
      intro j y hj hy
      refine Classical.byContradiction fun z => ?_
      rcases hy with rfl | rfl
      · rcases has_up.mp z with w | w
        · rw [nok _ (by omega)] at w; exact nz1 c (by omega) w
        · rw [nok _ (by omega)] at w; exact nz1 c (by omega) w
      · rcases has_dn.mp z with w | w
        · rw [nok _ (by omega)] at w; exact nz1 c (by omega) w
        · rw [nok _ (by omega)] at w; exact nz1 c (by omega) w
    have nst : ∀ j, j < 12 → ¬ stp f nr nf c j := by
      intro j hj s
      rcases s with ⟨r, y1, y2, y3⟩ | ⟨_, y2, y3⟩
      · rw [nob r (by omega)] at y2; cases y2
      · exact y3 ⟨h0 j 1 hj (Or.inl rfl), h0 j (-1) hj (Or.inr rfl)⟩
    have su : isStopC f nr nf c 1 = 0 := Classical.byContradiction fun z => by
      obtain ⟨j, y1, y2, y3⟩ := (I.stopU hc).mp z
      exact nst j (by omega) y3
    have sd : isStopC f nr nf c (-1) = 0 := Classical.byContradiction fun z => by
      obtain ⟨j, y1, y3⟩ := (I.stopD hc).mp z
      have := (I.i_flo hc).2
      exact nst j (by omega) y3
    have fl := (I.i_flo hc).2
    have oh : opensHereC f nr nf c (flo f c) = 0 := by
      unfold opensHereC
      rw [if_neg]
      · unfold ohC
        split
        · try rw [if_pos w0]
          unfold ohB
          rw [if_pos (h0 _ 1 (by omega) (Or.inl rfl)), if_pos (h0 _ (-1) (by omega) (Or.inr rfl))]
        · rfl
      · intro z
        obtain ⟨r, y1, y2, _⟩ := (ohA_iff hR).mp z
        rw [nob r (by omega)] at y2
        cases y2
    have gw : goW f nr nf c = 0 := by
      unfold goW
      rw [if_pos w0]
      unfold turnedC
      rw [if_pos w0, if_pos su, if_pos sd]
    have uE : up f (16 + 8 * c + 1) 0 = f := by
      funext j
      unfold up
      split
      · rename_i e; rw [e, w0]
      · rfl
    unfold stR stepR
    rw [sG, if_pos (by rw [z1]; decide), if_pos oh]
    unfold goesC
    rw [gw, uE]
    unfold goesD
    rw [if_pos rfl, if_pos (by rw [z2, I.i_mm])]
  have caE : ∀ c, c ≤ nc → caA t ct nr nf m 0 f c = f := by
    intro c
    induction c with
    | zero => intro _; rfl
    | succ c ih =>
      intro h
      rw [caA, ih (by omega)]
      split
      · rfl
      · rename_i e
        rw [if_pos rfl]
        exact st1 c (by omega) e
  have wt : ∀ r, r ≤ nr → wtA (up f 0 (f 0 + 1)) r = up f 0 (f 0 + 1) := by
    intro r
    induction r with
    | zero => intro _; rfl
    | succ r ih =>
      intro h
      rw [wtA, ih (by omega), if_neg]
      rw [up_ne (by omega), all3 r (by omega)]
      decide
  unfold tickC tkD tkC tkB
  rw [cm nr (Nat.le_refl _), show fireC f = 0 from if_neg nofire, if_pos rfl, gvE, I.i_mm, caE nc (Nat.le_refl _), wt nr (Nat.le_refl _)]
theorem QP.up0 {v : Int32} (Q : QP t nc nr f) : QP t nc nr (up f 0 v) := by
  have em : mm (up f 0 v) = mm f := by unfold mm; rw [up_ne (by omega)]
  refine ⟨?_, fun c hc => ?_⟩
  · exact (cnt_same (fun r hr => up_ne (by omega))).trans Q.1
  · have := Q.2 c hc
    rw [em, up_ne (by omega), up_ne (by omega), up_ne (by omega)]
    have pE : parksC (up f 0 v) t (min 8 (mm f)) c = parksC f t (min 8 (mm f)) c := by
      unfold parksC peakC
      rw [pk_eq' _ (by omega) (fun j h1 h2 => up_ne (by omega)), up_ne (by omega)]
    rw [pE]
    exact this
theorem AsP.up0 {v : Int32} (A : AsP t nc nr f) : AsP t nc nr (up f 0 v) := by
  refine ⟨by rw [up_ne (by omega)]; exact A.1, A.2.1.up0, fun c hc => ?_⟩
  rw [up_ne (by omega)]
  exact A.2.2 c hc
theorem AwI.up0 {v : Int32} (q : AwI f nr) : AwI (up f 0 v) nr := by
  refine q.same (fun i hi => Or.inl (up_ne (by omega))) fun r hr h1 => ?_
  rw [up_ne (by omega), up_ne (by omega), up_ne (by omega), up_ne (by omega)]
  exact ⟨h1, rfl, rfl, rfl⟩
theorem ticks_as (I : Inv ct nc nf nr m f) (q : AwI f nr) (A : AsP t nc nr f) : ∀ j, ticksC t ct nr nf nc f j = up f 0 (f 0 + nI j)
  | 0 => by
    show f = _
    funext k
    unfold up
    split
    · rename_i e; rw [e, show nI 0 = 0 from rfl, Int32.add_zero]
    · rfl
  | j + 1 => by
    rw [ticksC, ticks_as I q A j, tick_as (I.upL (by omega) (by omega) (by omega)) q.up0 A.up0, up_eq]
    funext k
    unfold up
    split
    · rw [Int32.add_assoc, nI_1]
    · rfl
theorem ticks_add (a : Nat) : ∀ b, ticksC t ct nr nf nc f (a + b) = ticksC t ct nr nf nc (ticksC t ct nr nf nc f a) b
  | 0 => rfl
  | b + 1 => by
    show tickC t ct nr nf nc (ticksC t ct nr nf nc f (a + b)) = _
    rw [ticks_add a b]
    rfl
/-- all that is asked of a row -/
def Row (ct : Nat → Int32) (nc nf nr : Nat) (f : Nat → Int32) : Prop := (∃ m, Inv ct nc nf nr m f) ∧ GI nc f ∧ AwI f nr
theorem Row.tick (hT : Tok t nf) (r : Row ct nc nf nr f) : Row ct nc nf nr (tickC t ct nr nf nc f) := by
  obtain ⟨⟨m, I⟩, g, q⟩ := r
  obtain ⟨m', I', g'⟩ := tickC_ok hT I g
  exact ⟨⟨m', I'⟩, g', q.tick hT I g⟩
theorem Row.ticks (hT : Tok t nf) (r : Row ct nc nf nr f) : ∀ n, Row ct nc nf nr (ticksC t ct nr nf nc f n)
  | 0 => r
  | n + 1 => (Row.ticks hT r n).tick hT
end Aw2
