/-! THE CLASS: a car lets out, turns, takes in -/
theorem ius_bit {v : Int32} {r : Nat} (hr : r < 32) : (ius v (nI r) &&& 1) = 0 ↔ bt v r = false := by
  have e1 : ∀ i, i < 32 → bt 1 i = decide (i = 0) := by decide +kernel
  constructor
  · intro h
    have h2 := congrArg (fun z => bt z 0) h
    simp only [b_and, b_0] at h2
    rw [b_ushr r hr, e1 0 (by omega)] at h2
    simpa using h2
  · intro h
    rw [b_zero]
    intro i hi
    rw [b_and, b_ushr r hr, e1 i hi]
    by_cases e : i = 0
    · subst e
      rw [Nat.add_zero, h]
      rfl
    · rw [decide_eq_false e, Bool.and_false]
section CarOut
variable {l : Launch} {x : CX} {h : PH} {a o c nc nf nr m : Nat} {f g t ct : Nat → Int32}
theorem opA_to {y : Int32} {r : Nat} {k : Nat} (hk : k < 4) (hc : c < 4) : ∀ n, opA g c y n (48 + 9 * r + k) = g (48 + 9 * r + k)
  | 0 => rfl
  | n + 1 => by
    have ih := opA_to (y := y) (r := r) hk hc n
    unfold opA offR arrivesR
    split
    · exact ih
    · split
      · rw [up_ne (by omega), up_ne (by omega), up_ne (by omega), up_ne (by omega)]
        exact ih
      · exact ih
theorem opA_ab {y : Int32} {r : Nat} (hc : c < 4) (hr : r < 32) : ∀ n, n ≤ 24 → bt (opA g c y n (16 + 8 * c + 3)) r = (bt (g (16 + 8 * c + 3)) r && !decide (r < n ∧ g (48 + 9 * r + 3) = y))
  | 0, _ => by rw [decide_eq_false (fun q => absurd q.1 (by omega))]; simp [opA]
  | n + 1, h => by
    have ih := opA_ab (y := y) hc hr n (by omega)
    have hto := opA_to (g := g) (c := c) (y := y) (r := n) (k := 3) (by omega) hc n
    unfold opA offR arrivesR
    by_cases e : r = n
    · subst e
      rw [decide_eq_false (fun q => absurd q.1 (by omega))] at ih
      simp only [Bool.not_false, Bool.and_true] at ih
      by_cases e1 : abit (opA g c y r (16 + 8 * c + 3)) r = 0
      · rw [if_pos e1, (abit_0 hr).mp e1]
        rw [(abit_0 hr).mp e1] at ih
        rw [← ih]; rfl
      · rw [if_neg e1, hto]
        by_cases e2 : g (48 + 9 * r + 3) = y
        · rw [if_pos e2, up_ne (by omega), up_ne (by omega), up_ne (by omega), up_eq, bt_clr _ r hr r hr, if_pos rfl, decide_eq_true ⟨by omega, e2⟩]
          simp
        · rw [if_neg e2, decide_eq_false (fun q => e2 q.2), ih]
          simp
    · have e9 : decide (r < n + 1 ∧ g (48 + 9 * r + 3) = y) = decide (r < n ∧ g (48 + 9 * r + 3) = y) := by
        rw [decide_eq_decide]
        exact ⟨fun q => ⟨by omega, q.2⟩, fun q => ⟨by omega, q.2⟩⟩
      rw [e9, ← ih]
      split
      · rfl
      · split
        · rw [up_ne (by omega), up_ne (by omega), up_ne (by omega), up_eq, bt_clr _ n (by omega) r hr, if_neg e]
        · rfl
theorem rd_ne {L J L' J' : Bool} {r k : Nat} (h1 : L = L') (h2 : J = J') : rd f c L J r k = rd f c L' J' r k := by rw [h1, h2]
theorem DR.off {L J : Int32} {r : Nat} {v : Int32} (D : DR f g c nr L J) (hc : c < 4) (hr : r < nr) (h4 : nr ≤ 24) (hw : g (48 + 9 * r + 4) = 2) : DR f (arrivesR (up g (16 + 8 * c + 3) v) r) c nr (L ||| (1 <<< (nI r &&& 31))) J := by
  have hL : bt L r = false := by
    cases e : bt L r with
    | false => rfl
    | true =>
      have := D.rr r hr 4 (by omega)
      rw [hw, e] at this
      exact absurd this (by unfold rd; simp)
  refine ⟨?_, fun r' hr' k hk => ?_, D.jj, fun r' hr' hb => ?_⟩
  · unfold arrivesR
    rw [up_ne (by omega), up_ne (by omega), up_ne (by omega), up_ne (by omega)]
    exact D.t0
  · unfold arrivesR
    rw [bt_set _ r (by omega) r' (by omega)]
    by_cases e : r' = r
    · subst e
      rw [if_pos rfl]
      have h9 := D.rr r' hr' k hk
      have h0 : up g (16 + 8 * c + 3) v 0 = f 0 := by rw [up_ne (by omega)]; exact D.t0
      rw [h0]
      by_cases k7 : k = 7
      · subst k7
        rw [up_eq]; unfold rd; simp
      · rw [up_ne (by omega)]
        by_cases k5 : k = 5
        · subst k5
          rw [up_eq]; unfold rd; simp
        · rw [up_ne (by omega)]
          by_cases k4 : k = 4
          · subst k4
            rw [up_eq]; unfold rd; simp
          · rw [up_ne (by omega), up_ne (by omega), h9]
            unfold rd
            rw [if_neg k4, if_neg k5, if_neg k7, if_neg k4, if_neg k5, if_neg k7]
    · rw [if_neg e, up_ne (by omega), up_ne (by omega), up_ne (by omega), up_ne (by omega)]
      exact D.rr r' hr' k hk
  · rw [bt_set _ r (by omega) r' (by omega)] at hb
    by_cases e : r' = r
    · subst e
      have h9 := D.rr r' hr' 4 (by omega)
      rw [hw, hL] at h9
      cases ej : bt J r' with
      | true => exact Or.inl rfl
      | false =>
        rw [ej] at h9
        refine Or.inr ?_
        unfold rd at h9
        simpa using h9.symm
    · rw [if_neg e] at hb
      exact D.ll r' hr' hb
theorem CB.same {h' : PH} {g' : Nat → Int32} (C : CB h a ct g c) (hg : ∀ k, k < 8 → g' (16 + 8 * c + k) = g (16 + 8 * c + k)) (hk : ∀ i, i < 48 → g' (264 + i) = g (264 + i)) (eK : (hK h' a).1 = (hK h a).1) (e1 : ∀ k, k < 11 → hI h' a k = hI h a k) (e2 : hL h' a 12 = hL h a 12) (e3 : hF h' a 7 = hF h a 7) : CB h' a ct g' c := by
  have h0 := hg 0 (by omega)
  rw [Nat.add_zero] at h0
  unfold CB
  rw [eK, e1 0 (by omega), e1 1 (by omega), e1 2 (by omega), e1 3 (by omega), e1 4 (by omega), e1 5 (by omega), e1 6 (by omega), e1 9 (by omega), e1 10 (by omega), e2, e3, h0, hg 1 (by omega), hg 2 (by omega), hg 3 (by omega), hg 4 (by omega), hg 5 (by omega), hg 6 (by omega), hg 7 (by omega)]
  obtain ⟨q1, q2, q3, q4, q5, q6, q7, q8, q9, q10, q11, q12⟩ := C
  refine ⟨q1, q2, q3, q4, q5, q6, q7, q8, q9, q10, q11, fun i hi => ?_⟩
  rw [q12 i hi]
  constructor
  · rintro ⟨z1, z2⟩
    exact ⟨z1, (hk i z1).trans z2⟩
  · rintro ⟨z1, z2⟩
    exact ⟨z1, (hk i z1).symm.trans z2⟩
/-- what letting out, and taking in, keep of the heap -/
def KP (k a : Nat) (h h' : PH) : Prop := Fr1 a h h' ∧ hI h' a 8 = hI h a 8 ∧ hI h' a k = hI h a k
theorem k_letOut (C : CO h a ct nr g c) (I : Inv ct nc nf nr m g) (hc : c < nc) (P : PO h o nr f) (D : DR f g c nr (hI h a 13) (hI h a 14)) (ha : a < o + 8) (ha2 : o < a) : CV l x mX2_letOut 0 0 0 [.ref a, .ref o] h (fun h' => KP 14 a h h' ∧ CO h' a ct nr (opG g c (flo g c) nr) c ∧ DR f (opG g c (flo g c) nr) c nr (hI h' a 13) (hI h' a 14)) := by
  have hC := I.hc
  have hR := I.hr
  have hF := I.hF
  obtain ⟨f1, f2⟩ := I.i_flo hc
  have flE : ∀ n, n ≤ nr → opA g c (nI (flo g c)) n (16 + 8 * c) = nI (flo g c) := fun n hn => by
    have : ∀ n, opA g c (nI (flo g c)) n (16 + 8 * c) = g (16 + 8 * c) := by
      intro n
      induction n with
      | zero => rfl
      | succ n ih =>
        unfold opA offR arrivesR
        split
        · exact ih
        · split
          · rw [up_ne (by omega), up_ne (by omega), up_ne (by omega), up_ne (by omega)]
            exact ih
          · exact ih
    rw [this n, f1]
  have loop : ∀ (j r : Nat) (hr : PH), r + j = nr → KP 14 a h hr → hL hr a 11 = hL h a 11 → CB hr a ct (opA g c (nI (flo g c)) r) c → DR f (opA g c (nI (flo g c)) r) c nr (hI hr a 13) (hI hr a 14) → Gm l x mX2_letOut 0 2 [(0, .ref a), (1, .ref o), (2, .int (nI r))] [] hr 0 0 (hN h) (fun v h' => v = none ∧ KP 14 a h h' ∧ CO h' a ct nr (opG g c (flo g c) nr) c ∧ DR f (opG g c (flo g c) nr) c nr (hI h' a 13) (hI h' a 14)) (fun _ _ => False) := by
    intro j
    induction j with
    | zero =>
      intro r hr hj kp eg cb dr
      obtain rfl : r = nr := by omega
      have P' := P.fr kp.1 (by omega) (by omega) hR
      refine vX2_letOut_2 ⟨P'.1.k, fun _ => ⟨cb.ck, rfl, ⟨kp.1.sL _ _, kp.2⟩, ⟨?_, ?_⟩, dr⟩, fun e => absurd ?_ e⟩
      · exact cb.same (fun _ _ => rfl) (fun _ _ => rfl) rfl (fun _ _ => rfl) (gLk _ _ _ (by decide)) rfl
      · intro i hi _
        rw [gL, cb.fl, flE r (Nat.le_refl _), n4, bL_clr _ _ hi, bL_one _ (by omega) hi, eg]
        have hto : ∀ r', opG g c (flo g c) r (48 + 9 * r' + 3) = g (48 + 9 * r' + 3) := fun r' => opA_to (by omega) (by omega) r
        by_cases e : i = 4 * flo g c
        · rw [decide_eq_true e]
          simp only [Bool.not_true, Bool.and_false]
          refine ⟨(fun q => by cases q), ?_⟩
          rintro ⟨r', h1, h2, jj, h3, h4, h5⟩
          rw [hto] at h3
          have h6 := opA_ab (g := g) (c := c) (y := nI (flo g c)) (r := r') (by omega) (by omega) r hR
          change bt (opG g c (flo g c) r (16 + 8 * c + 3)) r' = _ at h6
          rw [h2, decide_eq_true ⟨h1, by rw [h3, show jj = flo g c by omega]⟩] at h6
          simp at h6
        · rw [decide_eq_false e]
          simp only [Bool.not_false, Bool.and_true]
          rw [C.2 i hi (by omega)]
          have key : ∀ r', r' < r → (∃ jj, g (48 + 9 * r' + 3) = nI jj ∧ jj < 12 ∧ i = 4 * jj) → bt (opG g c (flo g c) r (16 + 8 * c + 3)) r' = bt (g (16 + 8 * c + 3)) r' := by
            rintro r' h1 ⟨jj, h3, h4, h5⟩
            have h6 := opA_ab (g := g) (c := c) (y := nI (flo g c)) (r := r') (by omega) (by omega) r hR
            rw [decide_eq_false (fun q => by
              have := q.2
              rw [h3, nI_eq (by omega) (by omega)] at this
              omega)] at h6
            simp only [Bool.not_false, Bool.and_true] at h6
            exact h6
          constructor
          · rintro ⟨r', h1, h2, h3⟩
            exact ⟨r', h1, by rw [key r' h1 h3]; exact h2, by rw [hto]; exact h3⟩
          · rintro ⟨r', h1, h2, h3⟩
            rw [hto] at h3
            exact ⟨r', h1, by rw [← key r' h1 h3]; exact h2, h3⟩
      · rw [P'.2.1]
        exact nI_le (Nat.le_refl _) (by omega)
    | succ j ih =>
      intro r hr hj kp eg cb dr
      have P' := P.fr kp.1 (by omega) (by omega) hR
      have Ir := I.i_opA (c := c) (y := nI (flo g c)) hc r (by omega)
      have pr := P'.1.pr r (by omega)
      have ro := P'.2.2 r (by omega)
      have hto : opA g c (nI (flo g c)) r (48 + 9 * r + 3) = g (48 + 9 * r + 3) := opA_to (by omega) (by omega) r
      have hto2 : f (48 + 9 * r + 3) = g (48 + 9 * r + 3) := (D.keep (by omega) (by omega) (by omega) (by omega) (by omega) (by omega)).symm
      have nextE : opA g c (nI (flo g c)) (r + 1) = offR (opA g c (nI (flo g c)) r) c r (nI (flo g c)) := rfl
      have skip : opA g c (nI (flo g c)) (r + 1) = opA g c (nI (flo g c)) r → Gm l x mX2_letOut 0 2 [(0, .ref a), (1, .ref o), (2, .int (nI r + 1))] [] hr 0 0 (hN h) (fun v h' => v = none ∧ KP 14 a h h' ∧ CO h' a ct nr (opG g c (flo g c) nr) c ∧ DR f (opG g c (flo g c) nr) c nr (hI h' a 13) (hI h' a 14)) (fun _ _ => False) := by
        intro e
        rw [nI_1]
        exact ih (r + 1) hr (by omega) kp eg (by rw [e]; exact cb) (by rw [e]; exact dr)
      refine vX2_letOut_2 ⟨P'.1.k, fun e => absurd e ?_, fun _ => ⟨cb.ck, fun e1 => skip ?_, fun e1 => ⟨o + 2, P'.1.p, by rw [P'.1.pk], ?_, o + 8 + r, ?_, pr.2, fun e2 => skip ?_, fun e2 => ?_⟩⟩⟩
      · rw [P'.2.1]
        exact nI_ge (by omega) (by omega)
      · rw [cb.ab, ius_bit (by omega)] at e1
        rw [nextE, offR, if_pos ((abit_0 (by omega)).mpr e1)]
      · rw [P'.1.pk]; exact vp_in_nI (by omega) (by decide)
      · rw [nI_clamp (by omega)]; exact pr.1
      · rw [ro.to, cb.fl, flE r (by omega), hto2] at e2
        rw [nextE, offR]
        split
        · rfl
        · rw [hto, if_neg e2]
      · rw [ro.to, cb.fl, flE r (by omega), hto2] at e2
        have eb : bt (opA g c (nI (flo g c)) r (16 + 8 * c + 3)) r = true := by
          rw [cb.ab, ius_bit (by omega)] at e1
          cases q : bt (opA g c (nI (flo g c)) r (16 + 8 * c + 3)) r with
          | false => exact absurd q e1
          | true => rfl
        have e3 : opA g c (nI (flo g c)) (r + 1) = arrivesR (up (opA g c (nI (flo g c)) r) (16 + 8 * c + 3) (opA g c (nI (flo g c)) r (16 + 8 * c + 3) &&& ((1 <<< (nI r &&& 31)) ^^^ (-1)))) r := by
          rw [nextE, offR, if_neg (fun q => by rw [(abit_0 (by omega)).mp q] at eb; cases eb), hto, if_pos e2]
        have w2 := (Ir.abo c hc r (by omega) eb).2.1
        rw [nI_1]
        refine ih (r + 1) _ (by omega) ⟨((kp.1.sI _ _).sI _ _).sI _ _, ?_, ?_⟩ eg ?_ ?_
        · rw [gIk _ _ _ (by decide), gIk _ _ _ (by decide), gIk _ _ _ (by decide)]
          exact kp.2.1
        · rw [gIk _ _ _ (by decide), gIk _ _ _ (by decide), gIk _ _ _ (by decide)]
          exact kp.2.2
        · rw [e3]
          generalize opA g c (nI (flo g c)) r = u at cb eb Ir
          obtain ⟨q1, q2, q3, q4, q5, q6, q7, q8, q9, q10, q11, q12⟩ := cb
          have hz := bc_clr _ r (by omega) eb
          unfold CB arrivesR
          simp (disch := omega) only [up_ne, up_eq]
          refine ⟨q1, ?_, ?_, ?_, ?_, ?_, ?_, ?_, q9, ?_, ?_, ?_⟩
          · rw [gIk _ _ _ (by decide), gIk _ _ _ (by decide), gIk _ _ _ (by decide)]; exact q2
          · rw [gIk _ _ _ (by decide), gIk _ _ _ (by decide), gIk _ _ _ (by decide)]; exact q3
          · rw [gIk _ _ _ (by decide), gIk _ _ _ (by decide), gIk _ _ _ (by decide)]; exact q4
          · rw [gIk _ _ _ (by decide), gIk _ _ _ (by decide), gIk _ _ _ (by decide)]; exact q5
          · rw [gIk _ _ _ (by decide), gIk _ _ _ (by decide), gIk _ _ _ (by decide)]; exact q6
          · rw [gIk _ _ _ (by decide), gIk _ _ _ (by decide), gIk _ _ _ (by decide)]; exact q7
          · rw [gIk _ _ _ (by decide), gIk _ _ _ (by decide), gIk _ _ _ (by decide)]; exact q8
          · rw [gIk _ _ _ (by decide), gIk _ _ _ (by decide), gI, q10]
          · rw [gI, q11, ← hz]
            exact Int32.add_sub_cancel _ _
          · exact q12
        · rw [e3, gIk _ _ _ (by decide), gI, gIk _ _ _ (by decide), gIk _ _ _ (by decide), gIk _ _ _ (by decide)]
          exact dr.off (by omega) (by omega) hR w2
  refine Cm.of (by decide) (Nat.le_of_ble_eq_true rfl) (vX2_letOut_0 (loop nr 0 h (by omega) ⟨Fr1.refl _ _, rfl, rfl⟩ rfl C.1 D))
end CarOut
