/-! WHAT A TEXT TELLS; rows that begin anew from it -/
def TD (t ct rt : Nat → Int32) (nc nf nr : Nat) : Prop :=
  TK t nc nf ∧ 2 ≤ nf ∧ nf ≤ 12 ∧ nc ≤ 4 ∧ t 2 = nI nr ∧ nr ≤ 20 ∧ CT ct nc ∧
  (∀ c, c < nc → (∃ n, ct (3 * c) = nI n ∧ n < nf) ∧ ∃ H, ct (3 * c + 1) = nI H ∧ 1 ≤ H ∧ H ≤ 6) ∧
  (∀ r, r < nr → (rt (4 * r) = 1 ∨ rt (4 * r) = 2) ∧ (∃ n, rt (4 * r + 1) = nI n ∧ n ≤ 99) ∧ (∃ n, rt (4 * r + 2) = nI n ∧ n < nf) ∧ ∃ n, rt (4 * r + 3) = nI n ∧ n < nf) ∧
  (tellsT t 5 = 0 ∨ tellsT t 5 = 1 ∨ tellsT t 5 = 2) ∧ (∃ y, tellsT t 4 = nI y ∧ y < 12) ∧ ∃ p, tellsT t 6 = nI p ∧ p ≤ 8
section Told
variable {nc nf nr m : Nat} {f t ct rt : Nat → Int32}
theorem TD.tk (T : TD t ct rt nc nf nr) : TK t nc nf := T.1
theorem TD.f2 (T : TD t ct rt nc nf nr) : 2 ≤ nf := T.2.1
theorem TD.f12 (T : TD t ct rt nc nf nr) : nf ≤ 12 := T.2.2.1
theorem TD.c4 (T : TD t ct rt nc nf nr) : nc ≤ 4 := T.2.2.2.1
theorem TD.t2 (T : TD t ct rt nc nf nr) : t 2 = nI nr := T.2.2.2.2.1
theorem TD.r20 (T : TD t ct rt nc nf nr) : nr ≤ 20 := T.2.2.2.2.2.1
theorem TD.ct' (T : TD t ct rt nc nf nr) : CT ct nc := T.2.2.2.2.2.2.1
theorem TD.ca (T : TD t ct rt nc nf nr) : ∀ c, c < nc → (∃ n, ct (3 * c) = nI n ∧ n < nf) ∧ ∃ H, ct (3 * c + 1) = nI H ∧ 1 ≤ H ∧ H ≤ 6 := T.2.2.2.2.2.2.2.1
theorem TD.ri (T : TD t ct rt nc nf nr) : ∀ r, r < nr → (rt (4 * r) = 1 ∨ rt (4 * r) = 2) ∧ (∃ n, rt (4 * r + 1) = nI n ∧ n ≤ 99) ∧ (∃ n, rt (4 * r + 2) = nI n ∧ n < nf) ∧ ∃ n, rt (4 * r + 3) = nI n ∧ n < nf := T.2.2.2.2.2.2.2.2.1
theorem TD.po (T : TD t ct rt nc nf nr) : tellsT t 5 = 0 ∨ tellsT t 5 = 1 ∨ tellsT t 5 = 2 := T.2.2.2.2.2.2.2.2.2.1
theorem TD.la (T : TD t ct rt nc nf nr) : ∃ y, tellsT t 4 = nI y ∧ y < 12 := T.2.2.2.2.2.2.2.2.2.2.1
theorem TD.pk (T : TD t ct rt nc nf nr) : ∃ p, tellsT t 6 = nI p ∧ p ≤ 8 := T.2.2.2.2.2.2.2.2.2.2.2
theorem Row_bg (T : TD t ct rt nc nf nr) : Row ct nc nf nr (bgF t ct rt nc nr) := by
  have hC := T.c4
  have h20 := T.r20
  have lo : ∀ j, j < 16 → bgF t ct rt nc nr j = if j = 2 then tellsT t 5 else if j = 3 then tellsT t 4 else if j = 4 then -1 else if j = 6 then t 2 else 0 := fun j hj => bg_lo hj
  have cc : ∀ c k, c < nc → k < 8 → bgF t ct rt nc nr (16 + 8 * c + k) = if k = 0 ∨ k = 6 then ct (3 * c) else if k = 7 then ct (3 * c + 1) else if k = 4 then 1 else 0 := fun c k hc hk => bg_c hc hk
  have rr : ∀ r k, r < nr → k < 9 → bgF t ct rt nc nr (48 + 9 * r + k) = if k < 4 then rt (4 * r + k) else if k = 5 ∨ k = 7 ∨ k = 8 then -1 else 0 := fun r k hr hk => bg_r hC hr hk
  have hh : ∀ i, bgF t ct rt nc nr (264 + i) = 0 := fun i => bg_hi hC (by omega) (by omega)
  have bc0 : bc 0 = nI 0 := by decide +kernel
  refine ⟨⟨0, ?_, by omega, T.f2, T.f12, hC, ?_, ?_, fun c hc => ?_, fun r hr => ?_, fun c hc r hr hb => ?_, fun r hr e => ?_, fun k hk => ?_⟩, ⟨?_, ?_, ?_⟩, fun i hi e => absurd (hh i) e⟩
  · rw [lo 6 (by decide)]; exact T.t2
  · rw [lo 7 (by decide)]; rfl
  · refine (fb_ct_zero.mpr fun r hr => ?_).symm
    rw [rr r 4 hr (by decide)]
    rfl
  · obtain ⟨⟨n, h1, h2⟩, H, h3, h4, h5⟩ := T.ca c hc
    unfold CarI
    rw [show bgF t ct rt nc nr (16 + 8 * c) = ct (3 * c) from cc c 0 hc (by decide), cc c 1 hc (by decide), cc c 2 hc (by decide), cc c 3 hc (by decide), cc c 4 hc (by decide), cc c 5 hc (by decide), cc c 6 hc (by decide), cc c 7 hc (by decide)]
    exact ⟨⟨n, h1, h2⟩, Or.inl rfl, ⟨0, rfl, by decide⟩, ⟨0, H, bc0, h3, by omega, h4, h5⟩, Or.inr rfl, Or.inl rfl, n, h1, h2⟩
  · obtain ⟨h1, _, h3, h4⟩ := T.ri r hr
    unfold RidI
    rw [show bgF t ct rt nc nr (48 + 9 * r) = rt (4 * r) from rr r 0 hr (by decide), rr r 2 hr (by decide), rr r 3 hr (by decide), rr r 4 hr (by decide), rr r 5 hr (by decide)]
    exact ⟨h1, h3, h4, Or.inl rfl, fun e => absurd (show (0 : Int32) = 1 from e) (by decide)⟩
  · rw [cc c 3 hc (by decide)] at hb
    rw [show (if (3 : Nat) = 0 ∨ 3 = 6 then ct (3 * c) else if (3 : Nat) = 7 then ct (3 * c + 1) else if (3 : Nat) = 4 then 1 else 0 : Int32) = 0 from rfl, b_0] at hb
    cases hb
  · rw [rr r 4 hr (by decide)] at e
    exact absurd (show (0 : Int32) = 2 from e) (by decide)
  · exact ⟨0, hh k, Nat.zero_le _, fun z => absurd z (Nat.lt_irrefl 0)⟩
  · rw [lo 1 (by decide)]; exact Or.inl rfl
  · rw [lo 2 (by decide)]; exact T.po
  · refine ⟨0, ?_, Nat.zero_le _⟩
    rw [lo 4 (by decide)]
    show (-1 : Int32) + 1 = nI 0
    decide
/-- one place changes -/
theorem Row.upX {k : Nat} {v : Int32} (W : Row ct nc nf nr f) (I : ∀ m, Inv ct nc nf nr m f → Inv ct nc nf nr m (up f k v)) (hg : GI nc f → GI nc (up f k v)) (hk : k < 264) (hk2 : ∀ r, r < 24 → k ≠ 48 + 9 * r ∧ k ≠ 48 + 9 * r + 3 ∧ k ≠ 48 + 9 * r + 4 ∧ k ≠ 48 + 9 * r + 5) : Row ct nc nf nr (up f k v) := by
  obtain ⟨⟨m, i⟩, g, a⟩ := W
  have h24 := i.hr
  refine ⟨⟨m, I m i⟩, hg g, a.same (fun i hi => Or.inl (up_ne (by omega))) (fun r hr e => ?_)⟩
  obtain ⟨z1, z2, z3, z4⟩ := hk2 r (by omega)
  rw [up_ne (Ne.symm z1), up_ne (Ne.symm z2), up_ne (Ne.symm z3), up_ne (Ne.symm z4)]
  exact ⟨e, rfl, rfl, rfl⟩
theorem GI.upO {k : Nat} {v : Int32} (h1 : k ≠ 1) (h2 : k ≠ 2) (h4 : k ≠ 4) (g : GI nc f) : GI nc (up f k v) := by
  unfold GI at g ⊢
  rw [up_ne (Ne.symm h1), up_ne (Ne.symm h2), up_ne (Ne.symm h4)]
  exact g
theorem Row.pol {v : Int32} (W : Row ct nc nf nr f) (hv : v = 0 ∨ v = 1 ∨ v = 2) : Row ct nc nf nr (up f 2 v) :=
  W.upX (fun m I => I.upL (by decide) (by decide) (by decide)) (fun g => ⟨by rw [up_ne (by decide)]; exact g.1, by rw [up_eq]; exact hv, by rw [up_ne (by decide)]; exact g.2.2⟩) (by decide) (fun r hr => by omega)
theorem Row.lat {v : Int32} (W : Row ct nc nf nr f) : Row ct nc nf nr (up f 3 v) :=
  W.upX (fun m I => I.upL (by decide) (by decide) (by decide)) (GI.upO (by decide) (by decide) (by decide)) (by decide) (fun r hr => by omega)
theorem Row.fir {v : Int32} (W : Row ct nc nf nr f) (hv : v = 0 ∨ v = 1) : Row ct nc nf nr (up f 1 v) :=
  W.upX (fun m I => I.upL (by decide) (by decide) (by decide)) (fun g => ⟨by rw [up_eq]; exact hv, by rw [up_ne (by decide)]; exact g.2.1, by rw [up_ne (by decide)]; exact g.2.2⟩) (by decide) (fun r hr => by omega)
theorem Row.c4 (W : Row ct nc nf nr f) : nc ≤ 4 := by obtain ⟨⟨m, I⟩, _⟩ := W; exact I.hc
theorem Row.r24 (W : Row ct nc nf nr f) : nr ≤ 24 := by obtain ⟨⟨m, I⟩, _⟩ := W; exact I.hr
theorem Row.f6 (W : Row ct nc nf nr f) : f 6 = nI nr := by obtain ⟨⟨m, I⟩, _⟩ := W; exact I.h6
theorem Row.inn {c : Nat} {v : Int32} (W : Row ct nc nf nr f) (hc : c < nc) (hv : v = 0 ∨ v = 1) : Row ct nc nf nr (up f (16 + 8 * c + 4) v) := by
  have := W.c4
  exact W.upX (fun m I => I.setIn hc hv) (GI.upO (by omega) (by omega) (by omega)) (by omega) (fun r hr => by omega)
theorem Row.hom {c n : Nat} (W : Row ct nc nf nr f) (hc : c < nc) (hn : n < nf) : Row ct nc nf nr (up f (16 + 8 * c + 6) (nI n)) := by
  have := W.c4
  exact W.upX (fun m I => I.setHm hc rfl hn) (GI.upO (by omega) (by omega) (by omega)) (by omega) (fun r hr => by omega)
theorem Row.flr {c n : Nat} (W : Row ct nc nf nr f) (hc : c < nc) (hn : n < nf) : Row ct nc nf nr (up f (16 + 8 * c) (nI n)) := by
  have := W.c4
  exact W.upX (fun m I => I.setFl hc rfl hn) (GI.upO (by omega) (by omega) (by omega)) (by omega) (fun r hr => by omega)
theorem Row.hld {c H : Nat} (W : Row ct nc nf nr f) (hc : c < nc) (h0 : f (16 + 8 * c + 3) = 0) (h1 : 1 ≤ H) (h6 : H ≤ 6) : Row ct nc nf nr (up f (16 + 8 * c + 7) (nI H)) := by
  have := W.c4
  refine W.upX (fun m I => I.upC (j := 7) hc rfl (by decide) (by decide) ?_) (GI.upO (by omega) (by omega) (by omega)) (by omega) (fun r hr => by omega)
  have q := I.cars c hc
  unfold CarI at q ⊢
  rw [up_ne (by omega), up_ne (by omega), up_ne (by omega), up_ne (by omega), up_ne (by omega), up_ne (by omega), up_ne (by omega), up_eq]
  obtain ⟨q1, q2, q3, q4, q5, q6, q7⟩ := q
  exact ⟨q1, q2, q3, ⟨0, H, by rw [h0]; decide +kernel, rfl, by omega, h1, h6⟩, q5, q6, q7⟩
theorem Row.cms {r : Nat} {v : Int32} (W : Row ct nc nf nr f) (hr : r < 24) : Row ct nc nf nr (up f (48 + 9 * r + 1) v) :=
  W.upX (fun m I => I.upR (j := 1) hr rfl (by decide) (Or.inl rfl)) (GI.upO (by omega) (by omega) (by omega)) (by omega) (fun r' hr' => by omega)
theorem Row_an {p y : Int32} (T : TD t ct rt nc nf nr) (hp : p = 0 ∨ p = 1 ∨ p = 2) : Row ct nc nf nr (anF t ct rt nc nr p y) := ((Row_bg T).pol hp).lat
theorem an_c {p y : Int32} {c k : Nat} (hc : c < nc) (hk : k < 8) : anF t ct rt nc nr p y (16 + 8 * c + k) = if k = 0 ∨ k = 6 then ct (3 * c) else if k = 7 then ct (3 * c + 1) else if k = 4 then 1 else 0 := by
  unfold anF
  rw [up_ne (by omega), up_ne (by omega), bg_c hc hk]
theorem an_r {p y : Int32} {r k : Nat} (hC : nc ≤ 4) (hr : r < nr) (hk : k < 9) : anF t ct rt nc nr p y (48 + 9 * r + k) = if k < 4 then rt (4 * r + k) else if k = 5 ∨ k = 7 ∨ k = 8 then -1 else 0 := by
  unfold anF
  rw [up_ne (by omega), up_ne (by omega), bg_r hC hr hk]
end Told
