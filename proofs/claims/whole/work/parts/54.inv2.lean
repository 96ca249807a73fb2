/-! THE ROW'S INVARIANT IS KEPT, place by place -/
theorem CarI.ne {nf c k : Nat} {v : Int32} {f : Nat → Int32} (q : CarI nf f c) (hk : k < 16 + 8 * c ∨ 16 + 8 * c + 8 ≤ k) : CarI nf (up f k v) c := by
  unfold CarI
  simp (disch := omega) only [up_ne]
  exact q
theorem RidI.ne {nf r k : Nat} {v : Int32} {f : Nat → Int32} (q : RidI nf f r) (h0 : k ≠ 48 + 9 * r) (h2 : k ≠ 48 + 9 * r + 2) (h3 : k ≠ 48 + 9 * r + 3) (h4 : k ≠ 48 + 9 * r + 4) (h5 : k ≠ 48 + 9 * r + 5) : RidI nf (up f k v) r := by
  unfold RidI
  simp (disch := omega) only [up_ne]
  exact q
theorem CallI.ne {ct : Nat → Int32} {nc nf k j : Nat} {v : Int32} {f : Nat → Int32} (q : CallI ct nc nf f j) (h0 : k ≠ 264 + j) : CallI ct nc nf (up f k v) j := by
  unfold CallI
  simp (disch := omega) only [up_ne]
  exact q
section InvUp
variable {ct : Nat → Int32} {nc nf nr m : Nat} {f : Nat → Int32}
theorem Inv.upL {k : Nat} {v : Int32} (I : Inv ct nc nf nr m f) (hk : k < 16) (h6 : k ≠ 6) (h7 : k ≠ 7) : Inv ct nc nf nr m (up f k v) := by
  refine ⟨?_, I.hr, I.hf, I.hF, I.hc, ?_, ?_, ?_, ?_, ?_, ?_, ?_⟩
  · rw [up_ne (by omega)]; exact I.h6
  · rw [up_ne (by omega)]; exact I.h7
  · simp (disch := omega) only [up_ne]
    exact I.hm
  · intro c' hc'
    exact (I.cars c' hc').ne (by omega)
  · intro r hr
    exact (I.rids r hr).ne (by omega) (by omega) (by omega) (by omega) (by omega)
  · intro c' hc' r hr hb
    simp (disch := omega) only [up_ne] at hb ⊢
    exact I.abo c' hc' r hr hb
  · intro r hr hb
    simp (disch := omega) only [up_ne] at hb ⊢
    exact I.rid r hr hb
  · intro j hj
    exact (I.call j hj).ne (by omega)
theorem Inv.upC {c j k : Nat} {v : Int32} (I : Inv ct nc nf nr m f) (hc : c < nc) (hk : k = 16 + 8 * c + j) (hj : j < 8) (h3 : j ≠ 3) (hq : CarI nf (up f k v) c) : Inv ct nc nf nr m (up f k v) := by
  have hc4 := I.hc
  refine ⟨?_, I.hr, I.hf, I.hF, I.hc, ?_, ?_, ?_, ?_, ?_, ?_, ?_⟩
  · rw [up_ne (by omega)]; exact I.h6
  · rw [up_ne (by omega)]; exact I.h7
  · simp (disch := omega) only [up_ne]
    exact I.hm
  · intro c' hc'
    by_cases e : c' = c
    · rw [e]; exact hq
    · exact (I.cars c' hc').ne (by omega)
  · intro r hr
    exact (I.rids r hr).ne (by omega) (by omega) (by omega) (by omega) (by omega)
  · intro c' hc' r hr hb
    simp (disch := omega) only [up_ne] at hb ⊢
    exact I.abo c' hc' r hr hb
  · intro r hr hb
    simp (disch := omega) only [up_ne] at hb ⊢
    obtain ⟨c', z1, z2, z3⟩ := I.rid r hr hb
    refine ⟨c', z1, z2, ?_⟩
    try simp (disch := omega) only [up_ne]
    exact z3
  · intro j hj
    exact (I.call j hj).ne (by omega)
/-- a rider's place that the invariant doesn't speak of -/
theorem Inv.upR {r j k : Nat} {v : Int32} (I : Inv ct nc nf nr m f) (hr : r < 24) (hk : k = 48 + 9 * r + j) (hj : j < 9) (h0 : j = 1 ∨ j = 6 ∨ j = 7 ∨ j = 8) : Inv ct nc nf nr m (up f k v) := by
  have hc4 := I.hc
  refine ⟨?_, I.hr, I.hf, I.hF, I.hc, ?_, ?_, ?_, ?_, ?_, ?_, ?_⟩
  · rw [up_ne (by omega)]; exact I.h6
  · rw [up_ne (by omega)]; exact I.h7
  · simp (disch := omega) only [up_ne]
    exact I.hm
  · intro c' hc'
    exact (I.cars c' hc').ne (by omega)
  · intro r hr
    exact (I.rids r hr).ne (by omega) (by omega) (by omega) (by omega) (by omega)
  · intro c' hc' r hr hb
    simp (disch := omega) only [up_ne] at hb ⊢
    exact I.abo c' hc' r hr hb
  · intro r hr hb
    simp (disch := omega) only [up_ne] at hb ⊢
    obtain ⟨c', z1, z2, z3⟩ := I.rid r hr hb
    refine ⟨c', z1, z2, ?_⟩
    try simp (disch := omega) only [up_ne]
    exact z3
  · intro j hj
    exact (I.call j hj).ne (by omega)
theorem Inv.upK {i k : Nat} {v : Int32} (I : Inv ct nc nf nr m f) (hi : i < 48) (hk : k = 264 + i) (hv : CallI ct nc nf (up f k v) i) : Inv ct nc nf nr m (up f k v) := by
  have hc4 := I.hc
  have hr4 := I.hr
  refine ⟨?_, I.hr, I.hf, I.hF, I.hc, ?_, ?_, ?_, ?_, ?_, ?_, ?_⟩
  · rw [up_ne (by omega)]; exact I.h6
  · rw [up_ne (by omega)]; exact I.h7
  · rw [I.hm]
    refine fb_ct_cong fun r hr => ?_
    rw [up_ne (by omega)]
  · intro c' hc'
    exact (I.cars c' hc').ne (by omega)
  · intro r hr
    exact (I.rids r hr).ne (by omega) (by omega) (by omega) (by omega) (by omega)
  · intro c' hc' r hr hb
    simp (disch := omega) only [up_ne] at hb ⊢
    have z := I.abo c' hc' r hr hb
    have := z.1
    simp (disch := omega) only [up_ne]
    exact z
  · intro r hr hb
    simp (disch := omega) only [up_ne] at hb ⊢
    obtain ⟨c', z1, z2, z3⟩ := I.rid r hr hb
    refine ⟨c', z1, z2, ?_⟩
    try simp (disch := omega) only [up_ne]
    exact z3
  · intro j hj
    by_cases e : j = i
    · rw [e]; exact hv
    · exact (I.call j hj).ne (by omega)
theorem Inv.setK0 {i : Nat} (I : Inv ct nc nf nr m f) (hi : i < 48) : Inv ct nc nf nr m (up f (264 + i) 0) :=
  I.upK hi rfl ⟨0, by rw [up_eq]; rfl, by omega, fun q => absurd q (by omega)⟩
theorem Inv.setFl {c n : Nat} {v : Int32} (I : Inv ct nc nf nr m f) (hc : c < nc) (e : v = nI n) (hn : n < nf) : Inv ct nc nf nr m (up f (16 + 8 * c) v) := by
  obtain ⟨q1, q2, q3, q4, q5, q6, q7⟩ := I.cars c hc
  refine I.upC (j := 0) hc rfl (by omega) (by omega) ?_
  unfold CarI
  simp (disch := omega) only [up_ne, up_eq]
  exact ⟨⟨n, e, hn⟩, q2, q3, q4, q5, q6, q7⟩
theorem Inv.setWy {c : Nat} {v : Int32} (I : Inv ct nc nf nr m f) (hc : c < nc) (e : v = 0 ∨ v = 1 ∨ v = -1) : Inv ct nc nf nr m (up f (16 + 8 * c + 1) v) := by
  obtain ⟨q1, q2, q3, q4, q5, q6, q7⟩ := I.cars c hc
  refine I.upC (j := 1) hc rfl (by omega) (by omega) ?_
  unfold CarI
  simp (disch := omega) only [up_ne, up_eq]
  exact ⟨q1, e, q3, q4, q5, q6, q7⟩
theorem Inv.setDr {c n : Nat} {v : Int32} (I : Inv ct nc nf nr m f) (hc : c < nc) (e : v = nI n) (hn : n ≤ 4) : Inv ct nc nf nr m (up f (16 + 8 * c + 2) v) := by
  obtain ⟨q1, q2, q3, q4, q5, q6, q7⟩ := I.cars c hc
  refine I.upC (j := 2) hc rfl (by omega) (by omega) ?_
  unfold CarI
  simp (disch := omega) only [up_ne, up_eq]
  exact ⟨q1, q2, ⟨n, e, hn⟩, q4, q5, q6, q7⟩
theorem Inv.setIn {c : Nat} {v : Int32} (I : Inv ct nc nf nr m f) (hc : c < nc) (e : v = 0 ∨ v = 1) : Inv ct nc nf nr m (up f (16 + 8 * c + 4) v) := by
  obtain ⟨q1, q2, q3, q4, q5, q6, q7⟩ := I.cars c hc
  refine I.upC (j := 4) hc rfl (by omega) (by omega) ?_
  unfold CarI
  simp (disch := omega) only [up_ne, up_eq]
  exact ⟨q1, q2, q3, q4, e, q6, q7⟩
theorem Inv.setWk {c : Nat} {v : Int32} (I : Inv ct nc nf nr m f) (hc : c < nc) (e : Wok v.toUInt32) : Inv ct nc nf nr m (up f (16 + 8 * c + 5) v) := by
  obtain ⟨q1, q2, q3, q4, q5, q6, q7⟩ := I.cars c hc
  refine I.upC (j := 5) hc rfl (by omega) (by omega) ?_
  unfold CarI
  simp (disch := omega) only [up_ne, up_eq]
  exact ⟨q1, q2, q3, q4, q5, e, q7⟩
theorem Inv.setHm {c n : Nat} {v : Int32} (I : Inv ct nc nf nr m f) (hc : c < nc) (e : v = nI n) (hn : n < nf) : Inv ct nc nf nr m (up f (16 + 8 * c + 6) v) := by
  obtain ⟨q1, q2, q3, q4, q5, q6, q7⟩ := I.cars c hc
  refine I.upC (j := 6) hc rfl (by omega) (by omega) ?_
  unfold CarI
  simp (disch := omega) only [up_ne, up_eq]
  exact ⟨q1, q2, q3, q4, q5, q6, ⟨n, e, hn⟩⟩
theorem dOk : ∀ n, n < 7 → (8388608 ≤ (upW n).toNat ∧ (upW n).toNat ≤ 1082130432) ∧ 8388608 ≤ (dnW n).toNat ∧ (dnW n).toNat ≤ 1082130432 := by decide +kernel
theorem Inv.works {c : Nat} {b : UInt32} (I : Inv ct nc nf nr m f) (hc : c < nc) (hb : Dok b) : Inv ct nc nf nr m (worksC f c b) := by
  refine I.setWk hc ?_
  rw [show ∀ u : UInt32, u.toInt32.toUInt32 = u from fun u => rfl]
  exact fadd_w (I.cars c hc).wo hb
theorem Inv.moves {c n k : Nat} {y : Int32} (I : Inv ct nc nf nr m f) (hc : c < nc) (hn : n < 7) (e : f (16 + 8 * c) + y = nI k) (hk : k < nf) : Inv ct nc nf nr m (movesC f c n y) := by
  refine (I.works hc ?_).setFl hc e hk
  split
  · exact (dOk n hn).2
  · exact (dOk n hn).1
theorem Inv.off {c r : Nat} (I : Inv ct nc nf nr m f) (hc : c < nc) (hr : r < nr) (hb : bt (f (16 + 8 * c + 3)) r = true) : Inv ct nc nf nr m (arrivesR (up f (16 + 8 * c + 3) (f (16 + 8 * c + 3) &&& ((1 <<< (nI r &&& 31)) ^^^ (-1)))) r) := by
  have hc4 := I.hc
  have hr4 := I.hr
  obtain ⟨_, w2, w5⟩ := I.abo c hc r (by omega) hb
  refine Inv.upR (r := r) (j := 7) ?_ (by omega) rfl (by omega) (by omega)
  refine ⟨?_, I.hr, I.hf, I.hF, I.hc, ?_, ?_, ?_, ?_, ?_, ?_, ?_⟩
  · simp (disch := omega) only [up_ne]; exact I.h6
  · simp (disch := omega) only [up_ne]; exact I.h7
  · rw [I.hm]
    refine fb_ct_cong fun r' hr' => ?_
    by_cases e : r' = r
    · subst e
      simp (disch := omega) only [up_ne, up_eq]
      rw [w2]
      decide
    · simp (disch := omega) only [up_ne]
  · intro c' hc'
    by_cases e : c' = c
    · subst e
      obtain ⟨q1, q2, q3, ⟨n, H, l1, l2, l3, l4⟩, q5, q6, q7⟩ := I.cars c' hc
      unfold CarI
      simp (disch := omega) only [up_ne, up_eq]
      have hz := bc_clr _ r (by omega) hb
      rw [l1] at hz
      rw [bc_ct] at hz
      have := fb_ct_le (bt (f (16 + 8 * c' + 3) &&& ((1 <<< (nI r &&& 31)) ^^^ (-1)))) 32
      rw [nI_1, nI_eq (by omega) (by omega)] at hz
      exact ⟨q1, q2, q3, ⟨_, H, bc_ct _, l2, by omega, l4⟩, q5, q6, q7⟩
    · exact (((I.cars c' hc').ne (by omega)).ne (by omega)).ne (by omega)
  · intro r' hr'
    by_cases e : r' = r
    · subst e
      obtain ⟨q1, q2, q3, q4, q5⟩ := I.rids r' hr'
      unfold RidI
      simp (disch := omega) only [up_ne, up_eq]
      exact ⟨q1, q2, q3, Or.inr (Or.inr (Or.inr rfl)), fun z => absurd z (by decide)⟩
    · exact (((I.rids r' hr').ne (by omega) (by omega) (by omega) (by omega) (by omega)).ne (by omega) (by omega) (by omega) (by omega) (by omega)).ne (by omega) (by omega) (by omega) (by omega) (by omega)
  · intro c' hc' r' hr' hb'
    have hrr : r' ≠ r ∧ bt (f (16 + 8 * c' + 3)) r' = true := by
      by_cases e : c' = c
      · subst e
        simp (disch := omega) only [up_ne, up_eq] at hb'
        rw [bt_clr _ r (by omega) r' hr'] at hb'
        by_cases e2 : r' = r
        · rw [if_pos e2] at hb'; cases hb'
        · rw [if_neg e2] at hb'; exact ⟨e2, hb'⟩
      · simp (disch := omega) only [up_ne] at hb'
        refine ⟨fun e2 => ?_, hb'⟩
        subst e2
        have h9 := (I.abo c' hc' r' hr' hb').2.2
        rw [w5, nI_eq (by omega) (by omega)] at h9
        exact e h9.symm
    have h9 := I.abo c' hc' r' hr' hrr.2
    have h8 := hrr.1
    simp (disch := omega) only [up_ne]
    exact h9
  · intro r' hr' hb'
    have hrr : r' ≠ r := by
      intro e
      subst e
      simp (disch := omega) only [up_ne, up_eq] at hb'
      exact absurd hb' (by decide)
    simp (disch := omega) only [up_ne] at hb' ⊢
    obtain ⟨c', z1, z2, z3⟩ := I.rid r' hr' hb'
    refine ⟨c', z1, z2, ?_⟩
    by_cases e : c' = c
    · subst e
      simp (disch := omega) only [up_ne, up_eq]
      rw [bt_clr _ r (by omega) r' (by omega), if_neg hrr]
      exact z3
    · simp (disch := omega) only [up_ne]
      exact z3
  · intro j hj
    exact (((I.call j hj).ne (by omega)).ne (by omega)).ne (by omega)
theorem not_full {c n H : Nat} (hb : bc (f (16 + 8 * c + 3)) = nI n) (hH : f (16 + 8 * c + 7) = nI H) (h1 : n ≤ H) (h2 : H ≤ 6) : fullC f c = 0 ↔ n < H := by
  unfold fullC
  rw [hb, hH]
  by_cases e : n = H
  · rw [if_pos (by rw [e])]
    exact ⟨fun q => absurd q (by decide), fun q => absurd e (by omega)⟩
  · rw [if_neg (fun q => e ((nI_eq (by omega) (by omega)).mp q))]
    exact ⟨fun _ => by omega, fun _ => rfl⟩
theorem Inv.on {c r : Nat} (I : Inv ct nc nf nr m f) (hc : c < nc) (hr : r < nr) (hw : f (48 + 9 * r + 4) = 1) (hfull : fullC f c = 0) : Inv ct nc nf nr m (onT f c r) := by
  have hc4 := I.hc
  have hr4 := I.hr
  have nob : ∀ c', c' < nc → bt (f (16 + 8 * c' + 3)) r = false := by
    intro c' hc'
    cases hb : bt (f (16 + 8 * c' + 3)) r with
    | false => rfl
    | true =>
      have := (I.abo c' hc' r (by omega) hb).2.1
      rw [hw] at this
      exact absurd this (by decide)
  unfold onT
  refine ⟨?_, I.hr, I.hf, I.hF, I.hc, ?_, ?_, ?_, ?_, ?_, ?_, ?_⟩
  · simp (disch := omega) only [up_ne]; exact I.h6
  · simp (disch := omega) only [up_ne]; exact I.h7
  · rw [I.hm]
    refine fb_ct_cong fun r' hr' => ?_
    by_cases e : r' = r
    · subst e
      simp (disch := omega) only [up_ne, up_eq]
      rw [hw]
      decide
    · simp (disch := omega) only [up_ne]
  · intro c' hc'
    by_cases e : c' = c
    · subst e
      obtain ⟨q1, q2, q3, ⟨n, H, l1, l2, l3, l4, l5⟩, q5, q6, q7⟩ := I.cars c' hc
      unfold CarI
      simp (disch := omega) only [up_ne, up_eq]
      have hz := bc_set _ r (by omega) (nob c' hc)
      rw [l1, nI_1] at hz
      have := (not_full l1 l2 l3 l5).mp hfull
      exact ⟨q1, q2, q3, ⟨_, H, hz, l2, by omega, l4, l5⟩, q5, q6, q7⟩
    · exact (((I.cars c' hc').ne (by omega)).ne (by omega)).ne (by omega)
  · intro r' hr'
    by_cases e : r' = r
    · subst e
      obtain ⟨q1, q2, q3, q4, q5⟩ := I.rids r' hr'
      unfold RidI
      simp (disch := omega) only [up_ne, up_eq]
      exact ⟨q1, q2, q3, Or.inr (Or.inr (Or.inl rfl)), fun z => absurd z (by decide)⟩
    · exact (((I.rids r' hr').ne (by omega) (by omega) (by omega) (by omega) (by omega)).ne (by omega) (by omega) (by omega) (by omega) (by omega)).ne (by omega) (by omega) (by omega) (by omega) (by omega)
  · intro c' hc' r' hr' hb'
    by_cases e : r' = r
    · subst e
      by_cases e2 : c' = c
      · subst e2
        exact ⟨hr, by rw [up_ne (by omega), up_eq], by rw [up_eq]⟩
      · simp (disch := omega) only [up_ne] at hb'
        rw [nob c' hc'] at hb'
        cases hb'
    · have hb2 : bt (f (16 + 8 * c' + 3)) r' = true := by
        by_cases e2 : c' = c
        · subst e2
          simp (disch := omega) only [up_ne, up_eq] at hb'
          rw [bt_set _ r (by omega) r' hr', if_neg e] at hb'
          exact hb'
        · simp (disch := omega) only [up_ne] at hb'
          exact hb'
      have h9 := I.abo c' hc' r' hr' hb2
      simp (disch := omega) only [up_ne]
      exact h9
  · intro r' hr' hb'
    by_cases e : r' = r
    · subst e
      refine ⟨c, hc, ?_, ?_⟩
      · simp (disch := omega) only [up_eq]
      · simp (disch := omega) only [up_ne, up_eq]
        rw [bt_set _ r' (by omega) r' (by omega), if_pos rfl]
    · simp (disch := omega) only [up_ne] at hb' ⊢
      obtain ⟨c', z1, z2, z3⟩ := I.rid r' hr' hb'
      refine ⟨c', z1, z2, ?_⟩
      by_cases e2 : c' = c
      · subst e2
        simp (disch := omega) only [up_ne, up_eq]
        rw [bt_set _ r (by omega) r' (by omega), if_neg e]
        exact z3
      · simp (disch := omega) only [up_ne]
        exact z3
  · intro j hj
    exact (((I.call j hj).ne (by omega)).ne (by omega)).ne (by omega)
end InvUp
