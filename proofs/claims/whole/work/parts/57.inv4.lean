/-! THE INVARIANT: emptied cars, fire, calls given, riders that come; a tick -/
section InvTick
variable {t ct : Nat → Int32} {nc nf nr m : Nat} {f : Nat → Int32}
def emV (f : Nat → Int32) (r : Nat) (y : Int32) (k : Nat) : Int32 :=
  if f (48 + 9 * r + 3) = y then (if k = 4 then 3 else if k = 5 then -1 else if k = 7 then f 0 else f (48 + 9 * r + k)) else (if k = 4 then 1 else if k = 5 then y else f (48 + 9 * r + k))
theorem emA_lo {c : Nat} {y : Int32} {j : Nat} (hj : j < 48) : ∀ i, emA f c y i j = f j
  | 0 => rfl
  | i + 1 => by
    have ih := emA_lo (c := c) (y := y) hj i
    unfold emA arrivesR
    split
    · exact ih
    · split
      · rw [up_ne (by omega), up_ne (by omega), up_ne (by omega)]; exact ih
      · rw [up_ne (by omega), up_ne (by omega)]; exact ih
theorem emA_hi {c : Nat} {y : Int32} {j : Nat} (hj : 264 ≤ j) : ∀ i, i ≤ 24 → emA f c y i j = f j
  | 0, _ => rfl
  | i + 1, h => by
    have ih := emA_hi (c := c) (y := y) hj i (by omega)
    unfold emA arrivesR
    split
    · exact ih
    · split
      · rw [up_ne (by omega), up_ne (by omega), up_ne (by omega)]; exact ih
      · rw [up_ne (by omega), up_ne (by omega)]; exact ih
theorem emA_r {c : Nat} {y : Int32} {r k : Nat} (hk : k < 9) : ∀ i, emA f c y i (48 + 9 * r + k) = if r < i ∧ ¬ abit (f (16 + 8 * c + 3)) r = 0 then emV f r y k else f (48 + 9 * r + k)
  | 0 => by rw [if_neg (fun q => absurd q.1 (by omega))]; rfl
  | i + 1 => by
    have ih := emA_r (c := c) (y := y) (r := r) hk i
    by_cases e : r = i
    · subst e
      rw [if_neg (fun q => absurd q.1 (by omega))] at ih
      unfold emA arrivesR
      by_cases hb : abit (f (16 + 8 * c + 3)) r = 0
      · rw [if_pos hb, if_neg (fun q => q.2 hb)]; exact ih
      · rw [if_neg hb, if_pos (show r < r + 1 ∧ ¬ abit (f (16 + 8 * c + 3)) r = 0 from ⟨by omega, hb⟩)]
        unfold emV
        by_cases ht : f (48 + 9 * r + 3) = y
        · rw [if_pos ht, if_pos ht, up, up, up]
          by_cases k7 : k = 7
          · rw [if_pos (by omega), if_neg (by omega), if_neg (by omega), if_pos k7]
            exact emA_lo (by omega) _
          · rw [if_neg (by omega)]
            by_cases k5 : k = 5
            · rw [if_pos (by omega), if_neg (by omega), if_pos k5]
            · rw [if_neg (by omega)]
              by_cases k4 : k = 4
              · rw [if_pos (by omega), if_pos k4]
              · rw [if_neg (by omega), if_neg k4, if_neg k5, if_neg k7]; exact ih
        · rw [if_neg ht, if_neg ht, up, up]
          by_cases k5 : k = 5
          · rw [if_pos (by omega), if_neg (by omega), if_pos k5]
          · rw [if_neg (by omega)]
            by_cases k4 : k = 4
            · rw [if_pos (by omega), if_pos k4]
            · rw [if_neg (by omega), if_neg k4, if_neg k5]; exact ih
    · have e2 : emA f c y (i + 1) (48 + 9 * r + k) = emA f c y i (48 + 9 * r + k) := by
        rw [emA]
        unfold arrivesR
        split
        · rfl
        · split
          · rw [up_ne (by omega), up_ne (by omega), up_ne (by omega)]
          · rw [up_ne (by omega), up_ne (by omega)]
      rw [e2, ih]
      by_cases q : r < i ∧ ¬ abit (f (16 + 8 * c + 3)) r = 0
      · rw [if_pos q, if_pos ⟨by omega, q.2⟩]
      · rw [if_neg q, if_neg (fun z => q ⟨by omega, z.2⟩)]
/-- an emptied car's row, place by place -/
theorem em_r {c r k : Nat} (hc : c < 4) (hk : k < 9) (hr : r < nr) (hr4 : nr ≤ 24) : emptiesC f c nr (48 + 9 * r + k) = if bt (f (16 + 8 * c + 3)) r = true then emV f r (f (16 + 8 * c)) k else f (48 + 9 * r + k) := by
  unfold emptiesC
  rw [up_ne (by omega), emA_r hk]
  by_cases e : bt (f (16 + 8 * c + 3)) r = true
  · rw [if_pos e, if_pos ⟨hr, fun q => by rw [(abit_0 (by omega)).mp q] at e; cases e⟩]
  · rw [if_neg e, if_neg (fun q => q.2 ((abit_0 (by omega)).mpr (by simpa using e)))]
theorem em_lo {c j : Nat} (hj : j < 48) (h3 : j ≠ 16 + 8 * c + 3) : emptiesC f c nr j = f j := by
  unfold emptiesC
  rw [up_ne h3, emA_lo hj]
theorem em_hi {c j : Nat} (hc : c < 4) (hj : 264 ≤ j) (hr4 : nr ≤ 24) : emptiesC f c nr j = f j := by
  unfold emptiesC
  rw [up_ne (by omega), emA_hi hj _ hr4]
theorem em_ab {c : Nat} : emptiesC f c nr (16 + 8 * c + 3) = 0 := up_eq
theorem Inv.em (I : Inv ct nc nf nr m f) {c : Nat} (hc : c < nc) : Inv ct nc nf nr m (emptiesC f c nr) := by
  have hc4 := I.hc
  have hr4 := I.hr
  have on2 : ∀ r, r < nr → bt (f (16 + 8 * c + 3)) r = true → f (48 + 9 * r + 4) = 2 ∧ f (48 + 9 * r + 5) = nI c := fun r hr hb => (I.abo c hc r (by omega) hb).2
  have w4 : ∀ r, r < nr → emptiesC f c nr (48 + 9 * r + 4) = if bt (f (16 + 8 * c + 3)) r = true then (if f (48 + 9 * r + 3) = f (16 + 8 * c) then 3 else 1) else f (48 + 9 * r + 4) := fun r hr => by
    rw [em_r (by omega) (by omega) hr hr4]
    unfold emV
    simp
  have w5 : ∀ r, r < nr → emptiesC f c nr (48 + 9 * r + 5) = if bt (f (16 + 8 * c + 3)) r = true then (if f (48 + 9 * r + 3) = f (16 + 8 * c) then -1 else f (16 + 8 * c)) else f (48 + 9 * r + 5) := fun r hr => by
    rw [em_r (by omega) (by omega) hr hr4]
    unfold emV
    simp
  have wk : ∀ r k, r < nr → k < 4 → emptiesC f c nr (48 + 9 * r + k) = f (48 + 9 * r + k) := fun r k hr hk => by
    rw [em_r (by omega) (by omega) hr hr4]
    unfold emV
    simp only [if_neg (show ¬ k = 4 by omega), if_neg (show ¬ k = 5 by omega), if_neg (show ¬ k = 7 by omega), ite_self]
  refine ⟨?_, I.hr, I.hf, I.hF, I.hc, ?_, ?_, ?_, ?_, ?_, ?_, ?_⟩
  · rw [em_lo (by omega) (by omega)]; exact I.h6
  · rw [em_lo (by omega) (by omega)]; exact I.h7
  · rw [I.hm]
    refine fb_ct_cong fun r hr => ?_
    rw [w4 r hr]
    by_cases e : bt (f (16 + 8 * c + 3)) r = true
    · rw [if_pos e, (on2 r hr e).1]
      split <;> decide
    · rw [if_neg e]
  · intro c' hc'
    by_cases e : c' = c
    · subst e
      obtain ⟨q1, q2, q3, ⟨n, H, l1, l2, l3, l4⟩, q5, q6, q7⟩ := I.cars c' hc
      unfold CarI
      rw [em_ab, em_lo (by omega) (by omega), em_lo (by omega) (by omega), em_lo (by omega) (by omega), em_lo (by omega) (by omega), em_lo (by omega) (by omega), em_lo (by omega) (by omega), em_lo (by omega) (by omega)]
      exact ⟨q1, q2, q3, ⟨0, H, by decide, l2, by omega, l4⟩, q5, q6, q7⟩
    · have q := I.cars c' hc'
      unfold CarI at q ⊢
      rw [em_lo (by omega) (by omega), em_lo (by omega) (by omega), em_lo (by omega) (by omega), em_lo (by omega) (by omega), em_lo (by omega) (by omega), em_lo (by omega) (by omega), em_lo (by omega) (by omega), em_lo (by omega) (by omega)]
      exact q
  · intro r hr
    obtain ⟨q1, q2, q3, q4, q5⟩ := I.rids r hr
    unfold RidI
    have e0 := wk r 0 hr (by omega)
    rw [Nat.add_zero] at e0
    rw [e0, wk r 2 hr (by omega), wk r 3 hr (by omega), w4 r hr, w5 r hr]
    by_cases e : bt (f (16 + 8 * c + 3)) r = true
    · rw [if_pos e, if_pos e]
      by_cases e2 : f (48 + 9 * r + 3) = f (16 + 8 * c)
      · rw [if_pos e2, if_pos e2]
        exact ⟨q1, q2, q3, Or.inr (Or.inr (Or.inr rfl)), fun z => absurd z (by decide)⟩
      · rw [if_neg e2, if_neg e2]
        exact ⟨q1, q2, q3, Or.inr (Or.inl rfl), fun _ => (I.cars c hc).fl⟩
    · rw [if_neg e, if_neg e]
      exact ⟨q1, q2, q3, q4, q5⟩
  · intro c' hc' r hr hb
    by_cases e : c' = c
    · subst e
      rw [em_ab, b_0] at hb
      cases hb
    · rw [em_lo (by omega) (by omega)] at hb
      have h9 := I.abo c' hc' r hr hb
      have e2 : ¬ bt (f (16 + 8 * c + 3)) r = true := fun q => by
        have := (on2 r h9.1 q).2
        rw [h9.2.2, nI_eq (by omega) (by omega)] at this
        exact e this
      rw [w4 r h9.1, w5 r h9.1, if_neg e2, if_neg e2]
      exact h9
  · intro r hr hb
    have e2 : ¬ bt (f (16 + 8 * c + 3)) r = true := fun q => by
      rw [w4 r hr, if_pos q] at hb
      split at hb
      · exact absurd hb (by decide)
      · exact absurd hb (by decide)
    rw [w4 r hr, if_neg e2] at hb
    rw [w5 r hr, if_neg e2]
    obtain ⟨c', z1, z2, z3⟩ := I.rid r hr hb
    refine ⟨c', z1, z2, ?_⟩
    have e3 : c' ≠ c := fun q => e2 (q ▸ z3)
    rw [em_lo (by omega) (by omega)]
    exact z3
  · intro j hj
    have q := I.call j hj
    unfold CallI at q ⊢
    rw [em_hi (by omega) (by omega) hr4]
    exact q
theorem Inv.burns (I : Inv ct nc nf nr m f) {c : Nat} (hc : c < nc) : Inv ct nc nf nr m (burnsC f c nr (lod f c)) := by
  have hF := I.hF
  obtain ⟨h1, h2⟩ := I.i_flo hc
  unfold burnsC
  by_cases e : f (16 + 8 * c) ≤ 0
  · rw [if_pos e]
    exact ((I.setDr (n := 0) hc rfl (by omega)).setWy hc (Or.inl rfl)).em hc
  · rw [if_neg e]
    have h0 : 0 < flo f c := by
      rcases Nat.eq_zero_or_pos (flo f c) with q | q
      · rw [h1, q] at e; exact absurd (by decide) e
      · exact q
    refine ((I.setDr (n := 0) hc rfl (by omega)).setWy hc (Or.inr (Or.inr rfl))).moves (k := flo f c - 1) hc (I.i_lod hc).2 ?_ (by omega)
    rw [up_ne (by omega), up_ne (by omega), h1]
    exact nI_dn1 h0
theorem choA_ok {fl s : Nat} {z : Int32} : ∀ k, k ≤ nc → (choA t ct nr nf nc m fl s z f k).1 = -1 ∨ ∃ c, c < nc ∧ (choA t ct nr nf nc m fl s z f k).1 = nI c ∧ ¬ takesC ct c (nI s) = 0
  | 0, _ => Or.inl rfl
  | k + 1, h => by
    have ih := choA_ok (fl := fl) (s := s) (z := z) k (by omega)
    have hcx := cix_lt (f := f) (nc := nc) (k := k) (by omega)
    unfold choA
    split
    · exact ih
    · split
      · exact ih
      · rename_i _ e2
        split
        · exact ih
        · unfold pck
          dsimp only
          split
          · exact Or.inr ⟨_, hcx, rfl, e2⟩
          · split
            · exact Or.inr ⟨_, hcx, rfl, e2⟩
            · exact ih
theorem Inv.i_givG {fl s : Nat} {z : Int32} (I : Inv ct nc nf nr m f) (g : GI nc f) (hfl : fl < nf) (h1 : 1 ≤ s) (h2 : s ≤ 2) : Inv ct nc nf nr m (givG t ct nr nf nc m fl s z f) ∧ GI nc (givG t ct nr nf nc m fl s z f) := by
  have hF := I.hF
  have hC := I.hc
  have hk : ∀ v, GI nc (up f (kix fl z s) v) := fun v => by
    have h9 : 264 ≤ kix fl z s := by unfold kix; omega
    unfold GI
    rw [up_ne (by omega), up_ne (by omega), up_ne (by omega)]
    exact g
  unfold givG
  have ok := choA_ok (t := t) (ct := ct) (nr := nr) (nf := nf) (nc := nc) (m := m) (f := f) (fl := fl) (s := s) (z := z) nc (Nat.le_refl _)
  change choC t ct nr nf nc m fl s z f = -1 ∨ ∃ c, c < nc ∧ choC t ct nr nf nc m fl s z f = nI c ∧ _ at ok
  rcases ok with e | ⟨c, hc, e, e2⟩
  · rw [if_pos e, e]
    obtain ⟨i, h3, h4⟩ := kix_264 (w := z) (by omega : fl < 12) h1 h2
    refine ⟨?_, hk _⟩
    rw [h4]
    exact I.setK0 h3
  · have hne : ¬ nI c = (-1 : Int32) := fun q => by
      have : (nI c).toInt = -1 := by rw [q]; decide
      rw [nI_toInt (by omega)] at this
      omega
    rw [e, if_neg hne]
    have I2 := I.setK (w := z) hc hfl h1 h2 e2
    split
    · refine ⟨I2.upL (by omega) (by omega) (by omega), ?_⟩
      have g2 := hk (nI c + 1)
      have e9 : ∀ j, j ≠ 4 → up (up f (kix fl z s) (nI c + 1)) 4 (nI c) j = up f (kix fl z s) (nI c + 1) j := fun j hj => up_ne hj
      unfold GI
      rw [e9 1 (by omega), e9 2 (by omega), up_eq]
      exact ⟨g2.1, g2.2.1, c + 1, nI_1 c, by omega⟩
    · exact ⟨I2, hk _⟩
theorem Inv.giv {fl s : Nat} {z : Int32} (I : Inv ct nc nf nr m f) (g : GI nc f) (hfl : fl < nf) (h1 : 1 ≤ s) (h2 : s ≤ 2) : Inv ct nc nf nr m (givC t ct nr nf nc m fl s z f) ∧ GI nc (givC t ct nr nf nc m fl s z f) := by
  unfold givC
  split
  · exact ⟨I, g⟩
  · split
    · exact I.i_givG g hfl h1 h2
    · split
      · exact ⟨I, g⟩
      · exact I.i_givG g hfl h1 h2
theorem Inv.i_mm (I : Inv ct nc nf nr m f) : mm f = m := by
  have := I.mlt
  unfold mm
  rw [I.h7, nI_clamp (by omega)]
/-- places of arrivals don't count -/
theorem Inv.arr {k : Nat → Int32} (I : Inv ct nc nf nr m f) (hk : ∀ j, (j < 8 ∨ 16 ≤ j) → k j = f j) : Inv ct nc nf nr m k := by
  have hr4 := I.hr
  refine ⟨?_, I.hr, I.hf, I.hF, I.hc, ?_, ?_, ?_, ?_, ?_, ?_, ?_⟩
  · rw [hk 6 (by omega)]; exact I.h6
  · rw [hk 7 (by omega)]; exact I.h7
  · rw [I.hm]
    refine fb_ct_cong fun r hr => ?_
    rw [hk _ (by omega)]
  · intro c' hc'
    have q := I.cars c' hc'
    unfold CarI at q ⊢
    rw [hk _ (by omega), hk _ (by omega), hk _ (by omega), hk _ (by omega), hk _ (by omega), hk _ (by omega), hk _ (by omega), hk _ (by omega)]
    exact q
  · intro r hr
    have q := I.rids r hr
    unfold RidI at q ⊢
    rw [hk _ (by omega), hk _ (by omega), hk _ (by omega), hk _ (by omega), hk _ (by omega)]
    exact q
  · intro c' hc' r hr hb
    rw [hk _ (by omega)] at hb
    rw [hk _ (by omega), hk _ (by omega)]
    exact I.abo c' hc' r hr hb
  · intro r hr hb
    rw [hk _ (by omega)] at hb
    rw [hk _ (by omega)]
    obtain ⟨c', z1, z2, z3⟩ := I.rid r hr hb
    exact ⟨c', z1, z2, by rw [hk _ (by omega)]; exact z3⟩
  · intro j hj
    have q := I.call j hj
    unfold CallI at q ⊢
    rw [hk _ (by omega)]
    exact q
theorem Inv.i_cmG {r : Nat} (I : Inv ct nc nf nr m f) (hr : r < nr) (h0 : f (48 + 9 * r + 4) = 0) : Inv ct nc nf nr (m + 1) (up (cmG f r) 7 (nI m + 1)) := by
  have hc4 := I.hc
  have hr4 := I.hr
  have nob : ∀ c', c' < nc → bt (f (16 + 8 * c' + 3)) r = false := by
    intro c' hc'
    cases hb : bt (f (16 + 8 * c' + 3)) r with
    | false => rfl
    | true =>
      have := (I.abo c' hc' r (by omega) hb).2.1
      rw [h0] at this
      exact absurd this (by decide)
  unfold cmG
  refine ⟨?_, I.hr, I.hf, I.hF, I.hc, ?_, ?_, ?_, ?_, ?_, ?_, ?_⟩
  · simp (disch := omega) only [up_ne]; exact I.h6
  · rw [up_eq, nI_1]
  · have h9 := fb_ct_upd (fun r => decide (¬ f (48 + 9 * r + 4) = 0)) true hr
    rw [if_pos rfl, ← I.hm] at h9
    have z0 : (decide (¬ f (48 + 9 * r + 4) = 0)) = false := by rw [h0]; decide
    rw [z0] at h9
    rw [← h9]
    refine fb_ct_cong fun k hk => ?_
    by_cases e : k = r
    · subst e
      simp (disch := omega) only [up_ne, up_eq]
      rw [if_pos trivial]
      decide
    · rw [if_neg e]
      simp (disch := omega) only [up_ne]
  · intro c' hc'
    exact (((I.cars c' hc').ne (by omega)).ne (by omega)).ne (by omega)
  · intro r' hr'
    by_cases e : r' = r
    · subst e
      obtain ⟨q1, q2, q3, q4, q5⟩ := I.rids r' hr'
      unfold RidI
      simp (disch := omega) only [up_ne, up_eq]
      exact ⟨q1, q2, q3, Or.inr (Or.inl rfl), fun _ => q2⟩
    · exact (((I.rids r' hr').ne (by omega) (by omega) (by omega) (by omega) (by omega)).ne (by omega) (by omega) (by omega) (by omega) (by omega)).ne (by omega) (by omega) (by omega) (by omega) (by omega)
  · intro c' hc' r' hr' hb'
    simp (disch := omega) only [up_ne] at hb'
    have h9 := I.abo c' hc' r' hr' hb'
    have e : r' ≠ r := fun q => by rw [q, nob c' hc'] at hb'; cases hb'
    simp (disch := omega) only [up_ne]
    exact h9
  · intro r' hr' hb'
    have e : r' ≠ r := fun q => by
      subst q
      simp (disch := omega) only [up_ne, up_eq] at hb'
      exact absurd hb' (by decide)
    simp (disch := omega) only [up_ne] at hb' ⊢
    obtain ⟨c', z1, z2, z3⟩ := I.rid r' hr' hb'
    refine ⟨c', z1, z2, ?_⟩
    simp (disch := omega) only [up_ne]
    exact z3
  · intro j hj
    exact (((I.call j hj).ne (by omega)).ne (by omega)).ne (by omega)
theorem com_lo {r j : Nat} (h7 : j ≠ 7) (hj : j < 8 ∨ 16 ≤ j) : comC f r j = cmG f r j := by
  unfold comC
  rw [up_ne h7, up_ne (by omega)]
  split
  · rfl
  · exact if_neg (by omega)
theorem Inv.com {r : Nat} (I : Inv ct nc nf nr m f) (hr : r < nr) (h0 : f (48 + 9 * r + 4) = 0) : Inv ct nc nf nr (m + 1) (comC f r) := by
  refine (I.i_cmG hr h0).arr fun j hj => ?_
  by_cases e : j = 7
  · subst e
    unfold comC
    rw [up_eq, up_eq, I.h7]
  · rw [com_lo e hj, up_ne e]
end InvTick
