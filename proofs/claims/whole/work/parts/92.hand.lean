/-! A RIDER BY HAND: the row with one more -/
def adV (tm a b s : Int32) (k : Nat) : Int32 := if k = 0 then s else if k = 1 then tm else if k = 2 then a else if k = 3 then b else if k = 4 ∨ k = 6 then 0 else -1
def adF (f : Nat → Int32) (r : Nat) (tm a b s : Int32) : Nat → Int32 := fun j => if 48 + 9 * r ≤ j ∧ j < 48 + 9 * r + 9 then adV tm a b s (j - (48 + 9 * r)) else if j = 6 then nI (r + 1) else f j
section Hand
variable {nc nf nr m : Nat} {f t ct rt : Nat → Int32} {tm a b s : Int32}
theorem ad_at {r k : Nat} (hk : k < 9) : adF f r tm a b s (48 + 9 * r + k) = adV tm a b s k := by
  unfold adF
  rw [if_pos (by omega), show 48 + 9 * r + k - (48 + 9 * r) = k by omega]
theorem ad_6 {r : Nat} : adF f r tm a b s 6 = nI (r + 1) := by
  unfold adF
  rw [if_neg (by omega), if_pos rfl]
theorem ad_ne {r j : Nat} (h : j < 48 + 9 * r ∨ 48 + 9 * r + 9 ≤ j) (h6 : j ≠ 6) : adF f r tm a b s j = f j := by
  unfold adF
  rw [if_neg (by omega), if_neg h6]
theorem Inv_ad {A B : Nat} (I : Inv ct nc nf nr m f) (h24 : nr < 24) (hs : s = 1 ∨ s = 2) (ha : a = nI A) (hA : A < nf) (hb : b = nI B) (hB : B < nf) : Inv ct nc nf (nr + 1) m (adF f nr tm a b s) := by
  have hC := I.hc
  have cc : ∀ c k, c < nc → k < 8 → adF f nr tm a b s (16 + 8 * c + k) = f (16 + 8 * c + k) := fun c k hc hk => ad_ne (Or.inl (by omega)) (by omega)
  have rr : ∀ r k, r < nr → k < 9 → adF f nr tm a b s (48 + 9 * r + k) = f (48 + 9 * r + k) := fun r k hr hk => ad_ne (Or.inl (by omega)) (by omega)
  have a4 : adF f nr tm a b s (48 + 9 * nr + 4) = 0 := ad_at (by decide)
  refine ⟨ad_6, by omega, I.hf, I.hF, hC, (ad_ne (Or.inl (by omega)) (by decide)).trans I.h7, ?_, fun c hc => ?_, fun r hr => ?_, fun c hc r hr hbt => ?_, fun r hr e => ?_, fun k hk => ?_⟩
  · rw [fb_ct_succ, if_neg (by rw [a4]; decide), Nat.add_zero]
    rw [I.hm]
    exact fb_ct_cong fun k hk => by rw [rr k 4 hk (by decide)]
  · have q := I.cars c hc
    unfold CarI at q ⊢
    rw [show adF f nr tm a b s (16 + 8 * c) = f (16 + 8 * c) from cc c 0 hc (by decide), cc c 1 hc (by decide), cc c 2 hc (by decide), cc c 3 hc (by decide), cc c 4 hc (by decide), cc c 5 hc (by decide), cc c 6 hc (by decide), cc c 7 hc (by decide)]
    exact q
  · rcases Nat.lt_or_ge r nr with z | z
    · have q := I.rids r z
      unfold RidI at q ⊢
      rw [show adF f nr tm a b s (48 + 9 * r) = f (48 + 9 * r) from rr r 0 z (by decide), rr r 2 z (by decide), rr r 3 z (by decide), rr r 4 z (by decide), rr r 5 z (by decide)]
      exact q
    · obtain rfl : r = nr := by omega
      unfold RidI
      rw [show adF f r tm a b s (48 + 9 * r) = s from ad_at (k := 0) (by decide), show adF f r tm a b s (48 + 9 * r + 2) = a from ad_at (by decide), show adF f r tm a b s (48 + 9 * r + 3) = b from ad_at (by decide), a4]
      exact ⟨hs, ⟨A, ha, hA⟩, ⟨B, hb, hB⟩, Or.inl rfl, fun e => absurd e (by decide)⟩
  · rw [cc c 3 hc (by decide)] at hbt
    obtain ⟨z1, z2, z3⟩ := I.abo c hc r hr hbt
    rw [rr r 4 z1 (by decide), rr r 5 z1 (by decide)]
    exact ⟨by omega, z2, z3⟩
  · rcases Nat.lt_or_ge r nr with z | z
    · rw [rr r 4 z (by decide)] at e
      obtain ⟨c, z1, z2, z3⟩ := I.rid r z e
      refine ⟨c, z1, ?_, ?_⟩
      · rw [rr r 5 z (by decide)]; exact z2
      · rw [cc c 3 z1 (by decide)]; exact z3
    · obtain rfl : r = nr := by omega
      rw [a4] at e
      exact absurd e (by decide)
  · have q := I.call k hk
    unfold CallI at q ⊢
    rw [ad_ne (Or.inr (by omega)) (by omega)]
    exact q
theorem Row_ad {A B : Nat} (W : Row ct nc nf nr f) (h24 : nr < 24) (hs : s = 1 ∨ s = 2) (ha : a = nI A) (hA : A < nf) (hb : b = nI B) (hB : B < nf) : Row ct nc nf (nr + 1) (adF f nr tm a b s) := by
  obtain ⟨⟨m, I⟩, g, aw⟩ := W
  refine ⟨⟨m, Inv_ad I h24 hs ha hA hb hB⟩, ?_, fun i hi e => ?_⟩
  · unfold GI at g ⊢
    rw [ad_ne (Or.inl (by omega)) (by decide), ad_ne (Or.inl (by omega)) (by decide), ad_ne (Or.inl (by omega)) (by decide)]
    exact g
  · rw [ad_ne (Or.inr (by omega)) (by omega)] at e
    obtain ⟨r, h1, h2, w, s', h3, h4, h5, h6, h7, h8⟩ := aw i hi e
    have rr : ∀ k, k < 9 → adF f nr tm a b s (48 + 9 * r + k) = f (48 + 9 * r + k) := fun k hk => ad_ne (Or.inl (by omega)) (by omega)
    refine ⟨r, by omega, (rr 4 (by decide)).trans h2, w, s', (rr 5 (by decide)).trans h3, h4, (rr 0 (by decide)).trans h5, h6, h7, ?_⟩
    unfold wayR at h8 ⊢
    rw [rr 3 (by decide), rr 5 (by decide)]
    exact h8
theorem Row_com {r : Nat} (W : Row ct nc nf nr f) (hr : r < nr) (h0 : f (48 + 9 * r + 4) = 0) : Row ct nc nf nr (comC f r) := by
  obtain ⟨⟨m, I⟩, g, aw⟩ := W
  have := I.hr
  exact ⟨⟨m + 1, I.com hr h0⟩, com_GI g, aw.com (by omega) I.hr h0⟩
/-- a rider by hand has come -/
def cwF (f : Nat → Int32) (r : Nat) (a b s : Int32) : Nat → Int32 := comC (adF f r (f 0) a b s) r
theorem Row_cw {A B : Nat} (W : Row ct nc nf nr f) (h24 : nr < 24) (hs : s = 1 ∨ s = 2) (ha : a = nI A) (hA : A < nf) (hb : b = nI B) (hB : B < nf) : Row ct nc nf (nr + 1) (cwF f nr a b s) :=
  Row_com (Row_ad W h24 hs ha hA hb hB) (by omega) (ad_at (by decide))
theorem com_same {f k : Nat → Int32} {r : Nat} (h : ∀ j, j ≠ 48 + 9 * r + 4 → j ≠ 48 + 9 * r + 5 → f j = k j) : comC f r = comC k r := by
  have h7 : f 7 = k 7 := h 7 (by omega) (by omega)
  have h2 : f (48 + 9 * r + 2) = k (48 + 9 * r + 2) := h _ (by omega) (by omega)
  have hm : mm f = mm k := by unfold mm; rw [h7]
  have hc : cmG f r = cmG k r := by
    funext j
    unfold cmG
    by_cases e5 : j = 48 + 9 * r + 5
    · rw [e5, up_eq, up_eq, h2]
    · rw [up_ne e5, up_ne e5]
      by_cases e4 : j = 48 + 9 * r + 4
      · rw [e4, up_eq, up_eq]
      · rw [up_ne e4, up_ne e4, h j e4 e5]
  unfold comC
  rw [hm, hc, h2, h7]
end Hand
section HandR
variable {l : Launch} {x : CX} {mo nc nf nr nr' m nn : Nat} {g : PH} {f F t ct rt ri ti : Nat → Int32} {a b s : Int32}
theorem r_comesNow (w : MW mo g) (q : NR mo g f) (W : Row ct nc nf nr f) (h24 : nr < 24) : CI l x mX8_comesNow 2 0 0 [.ref mo, .int a, .int b, .int s] g (fun v h' => v = nI nr ∧ SB [2] mo g h' ∧ NR mo h' (cwF f nr a b s)) := by
  obtain ⟨⟨m, I⟩, _, _⟩ := W
  have hm := I.mlt
  have w2 := w.row 2 2 312 (by decide)
  have v6 : vp_in 6 (hK g (mo + 2)).2 := by rw [w2.2.2]; exact vp_in_nI (n := 6) (by decide) (by decide)
  have v0 : ∀ h : PH, MW mo h → vp_in 0 (hK h (mo + 2)).2 := fun h w => by rw [(w.row 2 2 312 (by decide)).2.2]; exact vp_in_nI (n := 0) (by decide) (by decide)
  have e6 : hI g (mo + 2) (Int32.toNatClampNeg 6) = nI nr := (q.at 6 (by decide)).trans I.h6
  refine Cm.of (by decide) (Nat.le_of_ble_eq_true rfl) (vX8_comesNow_0 ⟨w.1, mo + 2, w2.1, w2.2.1, v6, v6, v6, ?_⟩)
  rw [e6, nI_1]
  have s0 : SB [2] mo g (sI g (mo + 2) (Int32.toNatClampNeg 6) (nI (nr + 1))) := ⟨rfl, rfl, rfl, fun b hb j => gIa _ _ _ _ (hb 2 (by decide))⟩
  have n0 : NR mo (sI g (mo + 2) (Int32.toNatClampNeg 6) (nI (nr + 1))) (up f 6 (nI (nr + 1))) := fun j hj => by
    by_cases z : j = 6
    · rw [z, up_eq]; exact gI _ _ _ _
    · rw [up_ne z]
      exact (gIk _ _ _ z).trans (q j hj)
  have w0 := s0.mw w
  refine ⟨_, r_put (k := 0) w0 n0 h24 (by decide), ?_⟩
  rintro h10 ⟨s10', n10⟩
  have w10 := s10'.mw w0
  have y2 := w10.row 2 2 312 (by decide)
  have et : hI h10 (mo + 2) (Int32.toNatClampNeg 0) = f 0 := by
    refine (n10.at 0 (by decide)).trans ?_
    rw [up_ne (by omega), up_ne (by omega)]
  refine ⟨w10.1, mo + 2, y2.1, y2.2.1, v0 h10 w10, ?_⟩
  rw [et]
  refine ⟨_, r_put (k := 1) w10 n10 h24 (by decide), ?_⟩
  rintro h18 ⟨s18, n18⟩
  have w18 := s18.mw w10
  refine ⟨w18.1, _, r_put (k := 2) w18 n18 h24 (by decide), ?_⟩
  rintro h22 ⟨s22, n22⟩
  have w22 := s22.mw w18
  refine ⟨w22.1, _, r_put (k := 3) w22 n22 h24 (by decide), ?_⟩
  rintro h26 ⟨s26, n26⟩
  have w26 := s26.mw w22
  refine ⟨w26.1, _, r_put (k := 6) w26 n26 h24 (by decide), ?_⟩
  rintro h30 ⟨s30, n30⟩
  have w30 := s30.mw w26
  refine ⟨w30.1, _, r_put (k := 7) w30 n30 h24 (by decide), ?_⟩
  rintro h34 ⟨s34, n34⟩
  have w34 := s34.mw w30
  refine ⟨w34.1, _, r_put (k := 8) w34 n34 h24 (by decide), ?_⟩
  rintro h38 ⟨s38, n38⟩
  have w38 := s38.mw w34
  refine ⟨w38.1, _, n38.lift w38 (c_comes (m := m) w38 h24 ?_ (by omega)), ?_⟩
  · rw [up_ne (by omega), up_ne (by omega), up_ne (by omega), up_ne (by omega), up_ne (by omega), up_ne (by omega), up_ne (by omega), up_ne (by omega)]
    exact I.h7
  rintro h42 rfl
  refine ⟨_, rfl, rfl, (((((((s0.trans s10').trans s18).trans s22).trans s26).trans s30).trans s34).trans s38).trans (SB.nw _ (by decide)), ?_⟩
  have e : cwF f nr a b s = comC (up (up (up (up (up (up (up (up f 6 (nI (nr + 1))) (48 + 9 * nr + 0) s) (48 + 9 * nr + 1) (f 0)) (48 + 9 * nr + 2) a) (48 + 9 * nr + 3) b) (48 + 9 * nr + 6) 0) (48 + 9 * nr + 7) (-1)) (48 + 9 * nr + 8) (-1)) nr := by
    refine com_same fun j e4 e5 => ?_
    by_cases z : 48 + 9 * nr ≤ j ∧ j < 48 + 9 * nr + 9
    · obtain ⟨k, rfl⟩ : ∃ k, j = 48 + 9 * nr + k := ⟨j - (48 + 9 * nr), by omega⟩
      rw [ad_at (by omega)]
      unfold adV
      by_cases k8 : k = 8
      · subst k8; rw [up_eq]; rfl
      · rw [up_ne (by omega)]
        by_cases k7 : k = 7
        · subst k7; rw [up_eq]; rfl
        · rw [up_ne (by omega)]
          by_cases k6 : k = 6
          · subst k6; rw [up_eq]; rfl
          · rw [up_ne (by omega)]
            by_cases k3 : k = 3
            · subst k3; rw [up_eq]; rfl
            · rw [up_ne (by omega)]
              by_cases k2 : k = 2
              · subst k2; rw [up_eq]; rfl
              · rw [up_ne (by omega)]
                by_cases k1 : k = 1
                · subst k1; rw [up_eq]; rfl
                · obtain rfl : k = 0 := by omega
                  rw [up_ne (by omega), up_eq]; rfl
    · rw [up_ne (by omega), up_ne (by omega), up_ne (by omega), up_ne (by omega), up_ne (by omega), up_ne (by omega), up_ne (by omega)]
      by_cases z6 : j = 6
      · rw [z6, up_eq]; exact ad_6
      · rw [up_ne z6, ad_ne (by omega) z6]
  rw [e]
  exact NR.nw
end HandR
