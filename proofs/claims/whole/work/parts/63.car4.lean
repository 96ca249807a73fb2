/-! THE CLASS: a car takes in -/
section CarIn2
variable {l : Launch} {x : CX} {h : PH} {a o c nc nf nr m : Nat} {f g t ct : Nat → Int32}
theorem CB.answer {fl : Nat} (C : CB h a ct g c) (I : Inv ct nc nf nr m g) (hc : c < nc) (e1 : hI h a 3 = nI fl) (hfl : fl < 12) : CB (sL h a 12 (hL h a 12 &&& ((lsh (ansL (g (16 + 8 * c + 1))) (4 * hI h a 3)) ^^^ (-1)))) a ct (opX ct g c fl (g (16 + 8 * c + 1))) c := by
  have hC := I.hc
  have lo : ∀ k, k < 8 → opX ct g c fl (g (16 + 8 * c + 1)) (16 + 8 * c + k) = g (16 + 8 * c + k) := by
    intro k hk
    have e : ∀ (u : Nat → Int32) (w : Int32) (s : Nat), clr ct u c fl w s (16 + 8 * c + k) = u (16 + 8 * c + k) := fun u w s => by
      unfold clr
      split
      · rfl
      · rw [up_ne (by unfold kix; omega)]
    unfold opX
    split
    · rfl
    · rw [e, e]
  have lo0 : opX ct g c fl (g (16 + 8 * c + 1)) (16 + 8 * c) = g (16 + 8 * c) := lo 0 (by omega)
  obtain ⟨q1, q2, q3, q4, q5, q6, q7, q8, q9, q10, q11, q12⟩ := C
  unfold CB
  rw [lo0, lo 1 (by omega), lo 2 (by omega), lo 3 (by omega), lo 4 (by omega), lo 5 (by omega), lo 6 (by omega), lo 7 (by omega)]
  refine ⟨q1, q2, q3, q4, q5, q6, q7, q8, q9, q10, q11, fun i hi => ?_⟩
  rw [gL, e1, n4, bL_clr _ _ hi, ans_bit (I.cars c hc).wy hfl hi, Bool.and_eq_true, q12 i hi]
  constructor
  · rintro ⟨⟨z1, z2⟩, z3⟩
    refine ⟨z1, (opX_call I hc hfl z1).mpr ⟨z2, ?_⟩⟩
    exact fun q => by
      rw [decide_eq_true q] at z3
      cases z3
  · rintro ⟨z1, z2⟩
    obtain ⟨z3, z4⟩ := (opX_call I hc hfl z1).mp z2
    refine ⟨⟨z1, z3⟩, ?_⟩
    rw [decide_eq_false z4]
    rfl
theorem opX_to {fl r k : Nat} {w : Int32} (hr : r < 24) (hk : k < 9) : opX ct g c fl w (48 + 9 * r + k) = g (48 + 9 * r + k) := by
  have e : ∀ (u : Nat → Int32) (s : Nat), clr ct u c fl w s (48 + 9 * r + k) = u (48 + 9 * r + k) := fun u s => by
    unfold clr
    split
    · rfl
    · rw [up_ne (by unfold kix; omega)]
  unfold opX
  split
  · rfl
  · rw [e, e]
theorem opX_ab {fl k : Nat} {w : Int32} (hk : k < 264) : opX ct g c fl w k = g k := by
  have e : ∀ (u : Nat → Int32) (s : Nat), clr ct u c fl w s k = u k := fun u s => by
    unfold clr
    split
    · rfl
    · rw [up_ne (by unfold kix; omega)]
  unfold opX
  split
  · rfl
  · rw [e, e]
theorem opB_lo {y w : Int32} {k : Nat} (hc : c < 4) (hk : k < 48) (h3 : k ≠ 16 + 8 * c + 3) : ∀ n, opB ct g c y w n k = g k
  | 0 => rfl
  | n + 1 => by
    have ih := opB_lo (y := y) (w := w) hc hk h3 n
    unfold opB onR onT
    split
    · split
      · rw [up_ne (by omega), up_ne (by omega), up_ne (by omega), up_ne (by omega)]; exact ih
      · rw [up_ne (by omega), up_ne (by omega), up_ne (by omega)]; exact ih
    · exact ih
theorem onT_eq {u : Nat → Int32} {r k : Nat} (h8 : k ≠ 48 + 9 * r + 8) : (if onT u c r (48 + 9 * r + 8) = -1 then up (onT u c r) (48 + 9 * r + 8) (onT u c r 0) else onT u c r) k = onT u c r k := by
  split
  · rw [up_ne h8]
  · rfl
theorem takes_iff {v s : Int32} (hv : v = ct (3 * c + 2)) : (if v = 0 then 1 else (if v = s then 1 else 0 : Int32) : Int32) = takesC ct c s := by
  unfold takesC
  rw [hv]
  by_cases e : ct (3 * c + 2) = 0
  · rw [if_pos e, if_pos (Or.inl e)]
  · rw [if_neg e]
    by_cases e2 : ct (3 * c + 2) = s
    · rw [if_pos e2, if_pos (Or.inr e2)]
    · rw [if_neg e2, if_neg (fun q => q.elim e e2)]
/-- the row that taking in ends with -/
def tiC (ct g : Nat → Int32) (c fl nr : Nat) (w : Int32) : Nat → Int32 := opX ct (opB ct g c (nI fl) w nr) c fl w
theorem k_takeIn (C : CO h a ct nr g c) (I : Inv ct nc nf nr m g) (hc : c < nc) (P : PO h o nr f) (D : DR f g c nr (hI h a 13) (hI h a 14)) (ha : a < o + 8) (ha2 : o < a) : CV l x mX2_takeIn 0 0 0 [.ref a, .ref o] h (fun h' => KP 13 a h h' ∧ CO h' a ct nr (tiC ct g c (flo g c) nr (g (16 + 8 * c + 1))) c ∧ DR f (tiC ct g c (flo g c) nr (g (16 + 8 * c + 1))) c nr (hI h' a 13) (hI h' a 14)) := by
  have hC := I.hc
  have hR := I.hr
  have hF := I.hF
  obtain ⟨f1, f2⟩ := I.i_flo hc
  generalize hw : g (16 + 8 * c + 1) = w
  have flE : ∀ n, opB ct g c (nI (flo g c)) w n (16 + 8 * c) = nI (flo g c) := fun n => (opB_lo (by omega) (by omega) (by omega) n).trans f1
  have wyE : ∀ n, opB ct g c (nI (flo g c)) w n (16 + 8 * c + 1) = w := fun n => (opB_lo (by omega) (by omega) (by omega) n).trans hw
  have fin : ∀ (r : Nat) (hr : PH), r ≤ nr → KP 13 a h hr → CO hr a ct nr (opB ct g c (nI (flo g c)) w r) c → DR f (opB ct g c (nI (flo g c)) w r) c nr (hI hr a 13) (hI hr a 14) → opB ct g c (nI (flo g c)) w nr = opB ct g c (nI (flo g c)) w r → ∀ y6 : Int64, y6 = (if (hI hr a 4) ≤ 0 then (if 0 ≤ (hI hr a 4) then 0 else 12 : Int64) else 3 : Int64) → (none : Option Value) = none ∧ KP 13 a h (sL hr a 12 ((hL hr a 12) &&& ((lsh y6 (4 * (hI hr a 3))) ^^^ (-1)))) ∧ CO (sL hr a 12 ((hL hr a 12) &&& ((lsh y6 (4 * (hI hr a 3))) ^^^ (-1)))) a ct nr (tiC ct g c (flo g c) nr w) c ∧ DR f (tiC ct g c (flo g c) nr w) c nr (hI (sL hr a 12 ((hL hr a 12) &&& ((lsh y6 (4 * (hI hr a 3))) ^^^ (-1)))) a 13) (hI (sL hr a 12 ((hL hr a 12) &&& ((lsh y6 (4 * (hI hr a 3))) ^^^ (-1)))) a 14) := by
    intro r hr hrn kp co dr eq y6 h6
    have Ir := I.i_opB (c := c) (y := nI (flo g c)) (w := w) hc r hrn
    change y6 = ansL (hI hr a 4) at h6
    rw [co.1.wy, wyE] at h6
    subst h6
    have cb := co.1.answer Ir hc (co.1.fl.trans (flE r)) (by omega)
    rw [wyE] at cb
    unfold tiC
    rw [eq]
    refine ⟨rfl, ⟨kp.1.sL _ _, kp.2⟩, ⟨cb, fun i hi hz => ?_⟩, ?_⟩
    · rw [gLk _ _ _ (by decide), co.2 i hi hz, opX_ab (by omega)]
      constructor
      · rintro ⟨r', z1, z2, z3⟩
        exact ⟨r', z1, z2, by rw [opX_to (by omega) (by omega)]; exact z3⟩
      · rintro ⟨r', z1, z2, z3⟩
        rw [opX_to (by omega) (by omega)] at z3
        exact ⟨r', z1, z2, z3⟩
    · refine ⟨?_, fun r' hr' k hk => ?_, dr.jj, dr.ll⟩
      · rw [opX_ab (by omega)]; exact dr.t0
      · rw [opX_to (by omega) hk]; exact dr.rr r' hr' k hk
  have loop : ∀ (j r : Nat) (hr : PH), r + j = nr → KP 13 a h hr → CO hr a ct nr (opB ct g c (nI (flo g c)) w r) c → DR f (opB ct g c (nI (flo g c)) w r) c nr (hI hr a 13) (hI hr a 14) → Gm l x mX2_takeIn 0 2 [(0, .ref a), (1, .ref o), (2, .int (nI r))] [] hr 0 0 (hN h) (fun v h' => v = none ∧ KP 13 a h h' ∧ CO h' a ct nr (tiC ct g c (flo g c) nr w) c ∧ DR f (tiC ct g c (flo g c) nr w) c nr (hI h' a 13) (hI h' a 14)) (fun _ _ => False) := by
    intro j
    induction j with
    | zero =>
      intro r hr hj kp co dr
      obtain rfl : r = nr := by omega
      have P' := P.fr kp.1 (by omega) (by omega) hR
      refine vX2_takeIn_2 ⟨P'.1.k, fun _ => ⟨co.1.ck, fin r hr (Nat.le_refl _) kp co dr rfl⟩, fun e => absurd ?_ e⟩
      rw [P'.2.1]
      exact nI_le (Nat.le_refl _) (by omega)
    | succ j ih =>
      intro r hr hj kp co dr
      have P' := P.fr kp.1 (by omega) (by omega) hR
      have Ir := I.i_opB (c := c) (y := nI (flo g c)) (w := w) hc r (by omega)
      have pr := P'.1.pr r (by omega)
      have ro := P'.2.2 r (by omega)
      have wyr := wyE r
      have flr := flE r
      have nextE : opB ct g c (nI (flo g c)) w (r + 1) = onR ct (opB ct g c (nI (flo g c)) w r) c r (nI (flo g c)) w := rfl
      have stay : ¬ fullC (opB ct g c (nI (flo g c)) w r) c = 0 → opB ct g c (nI (flo g c)) w nr = opB ct g c (nI (flo g c)) w r := fun q => by
        have := full_stay q (j + 1)
        rw [hj] at this
        exact this
      generalize opB ct g c (nI (flo g c)) w r = u at co dr Ir wyr flr nextE stay
      have skip : onR ct u c r (nI (flo g c)) w = u → Gm l x mX2_takeIn 0 2 [(0, .ref a), (1, .ref o), (2, .int (nI r + 1))] [] hr 0 0 (hN h) (fun v h' => v = none ∧ KP 13 a h h' ∧ CO h' a ct nr (tiC ct g c (flo g c) nr w) c ∧ DR f (tiC ct g c (flo g c) nr w) c nr (hI h' a 13) (hI h' a 14)) (fun _ _ => False) := by
        intro e
        rw [nI_1]
        exact ih (r + 1) hr (by omega) kp (by rw [nextE, e]; exact co) (by rw [nextE, e]; exact dr)
      have u4 := dr.rr r (by omega) 4 (by omega)
      have u5 := dr.rr r (by omega) 5 (by omega)
      have u3 : u (48 + 9 * r + 3) = f (48 + 9 * r + 3) := dr.keep (by omega) (by omega) (by omega) (by omega) (by omega) (by omega)
      have u0 : u (48 + 9 * r) = f (48 + 9 * r) := dr.keep (k := 0) (by omega) (by omega) (by omega) (by omega) (by omega) (by omega)
      have same : u (48 + 9 * r + 4) = 1 → bt (hI hr a 13) r = false ∧ bt (hI hr a 14) r = false ∧ f (48 + 9 * r + 4) = 1 ∧ u (48 + 9 * r + 5) = f (48 + 9 * r + 5) ∧ wayR u r = wayR f r := by
        intro e
        rw [e] at u4
        cases eL : bt (hI hr a 13) r with
        | true => rw [eL] at u4; exact absurd u4 (by unfold rd; simp)
        | false =>
          cases eJ : bt (hI hr a 14) r with
          | true => rw [eL, eJ] at u4; exact absurd u4 (by unfold rd; simp)
          | false =>
            rw [eL, eJ] at u4 u5
            have e5 : u (48 + 9 * r + 5) = f (48 + 9 * r + 5) := by rw [u5]; unfold rd; simp
            refine ⟨rfl, rfl, ?_, e5, ?_⟩
            · unfold rd at u4; simpa using u4.symm
            · unfold wayR; rw [u3, e5]
      have back : f (48 + 9 * r + 4) = 1 → bt (hI hr a 14) r = false → u (48 + 9 * r + 4) = 1 := by
        intro e1 e2
        have eL : bt (hI hr a 13) r = false := by
          cases eL : bt (hI hr a 13) r with
          | false => rfl
          | true =>
            rcases dr.ll r (by omega) eL with q | q
            · rw [e2] at q; cases q
            · rw [e1] at q; exact absurd q (by decide)
        rw [u4, eL, e2]
        unfold rd
        simpa using e1
      refine vX2_takeIn_2 ⟨P'.1.k, fun e => absurd e ?_, fun _ => ⟨co.1.ck, fun e1 y6 h6 => ?_, fun e1 => ⟨o + 2, P'.1.p, by rw [P'.1.pk], ?_, o + 8 + r, ?_, pr.2, fun y24 h24 y28 h28 => ?_⟩⟩⟩
      · rw [P'.2.1]
        exact nI_ge (by omega) (by omega)
      · have nf0 : ¬ fullC u c = 0 := fun q => (co.1.full Ir hc).mp q e1
        have es := stay nf0
        refine fin nr hr (Nat.le_refl _) kp (by rw [es]; exact co) (by rw [es]; exact dr) rfl y6 h6
      · rw [P'.1.pk]; exact vp_in_nI (by omega) (by decide)
      · rw [nI_clamp (by omega)]; exact pr.1
      · have nfull := (co.1.full Ir hc).mpr e1
        rw [takes_iff co.1.so, ro.so] at h28
        rw [ro.wh, ro.we, co.1.fl, co.1.wy, flr, wyr] at h24
        refine ⟨fun e2 => skip ?_, fun e2 => ⟨fun e3 => skip ?_, fun e3 => ⟨fun e4 => skip ?_, fun e4 => ?_⟩⟩⟩
        · rw [onR, if_neg]
          rintro ⟨z1, z2, z3, z4, z5⟩
          obtain ⟨s1, s2, s3, s4, s5⟩ := same z2
          rw [h24, if_pos s3, if_pos (s4 ▸ z3), if_pos ((ro.wa s3).trans (s5 ▸ z4))] at e2
          exact absurd e2 (by decide)
        · rw [onR, if_neg]
          rintro ⟨z1, z2, z3, z4, z5⟩
          rw [u0, ← h28] at z5
          exact z5 e3
        · rw [onR, if_neg]
          rintro ⟨z1, z2, z3, z4, z5⟩
          obtain ⟨s1, s2, s3, s4, s5⟩ := same z2
          exact e4 ((ius_bit (by omega)).mpr s2)
        · rw [ius_bit (by omega)] at e4
          have a1 : f (48 + 9 * r + 4) = 1 := by
            by_cases q : f (48 + 9 * r + 4) = 1
            · exact q
            · rw [h24, if_neg q] at e2; exact absurd rfl e2
          rw [if_pos a1] at h24
          have a2 : f (48 + 9 * r + 5) = nI (flo g c) := by
            by_cases q : f (48 + 9 * r + 5) = nI (flo g c)
            · exact q
            · rw [h24, if_neg q] at e2; exact absurd rfl e2
          rw [if_pos a2, ro.wa a1] at h24
          have a3 : wayR f r = w := by
            by_cases q : wayR f r = w
            · exact q
            · rw [h24, if_neg q] at e2; exact absurd rfl e2
          have b1 := back a1 e4
          obtain ⟨s1, s2, s3, s4, s5⟩ := same b1
          have eN : onR ct u c r (nI (flo g c)) w = if onT u c r (48 + 9 * r + 8) = -1 then up (onT u c r) (48 + 9 * r + 8) (onT u c r 0) else onT u c r := by
            rw [onR, if_pos ⟨nfull, b1, s4.trans a2, s5.trans a3, by rw [u0, ← h28]; exact e3⟩]
          obtain ⟨jt, hj1, hj2⟩ := Ir.to' r (by omega)
          have nob : bt (u (16 + 8 * c + 3)) r = false := by
            cases hb : bt (u (16 + 8 * c + 3)) r with
            | false => rfl
            | true =>
              have := (Ir.abo c hc r (by omega) hb).2.1
              rw [b1] at this
              exact absurd this (by decide)
          rw [nI_1]
          refine ih (r + 1) _ (by omega) ⟨(((kp.1.sI _ _).sI _ _).sI _ _).sL _ _, ?_, ?_⟩ ?_ ?_
          · rw [hI_sL, gIk _ _ _ (by decide), gIk _ _ _ (by decide), gIk _ _ _ (by decide)]
            exact kp.2.1
          · rw [hI_sL, gIk _ _ _ (by decide), gIk _ _ _ (by decide), gIk _ _ _ (by decide)]
            exact kp.2.2
          · rw [nextE, eN]
            obtain ⟨⟨q1, q2, q3, q4, q5, q6, q7, q8, q9, q10, q11, q12⟩, cg⟩ := co
            have hz := bc_set _ r (by omega) nob
            have T : ∀ k, k < 48 → (if onT u c r (48 + 9 * r + 8) = -1 then up (onT u c r) (48 + 9 * r + 8) (onT u c r 0) else onT u c r) k = if k = 16 + 8 * c + 3 then (u (16 + 8 * c + 3) ||| (1 <<< (nI r &&& 31))) else u k := by
              intro k hk
              rw [onT_eq (by omega)]
              unfold onT
              rw [up_ne (by omega), up_ne (by omega), up]
            have T2 : ∀ i, (if onT u c r (48 + 9 * r + 8) = -1 then up (onT u c r) (48 + 9 * r + 8) (onT u c r 0) else onT u c r) (264 + i) = u (264 + i) := by
              intro i
              rw [onT_eq (by omega)]
              unfold onT
              rw [up_ne (by omega), up_ne (by omega), up_ne (by omega)]
            have T3 : ∀ r', (if onT u c r (48 + 9 * r + 8) = -1 then up (onT u c r) (48 + 9 * r + 8) (onT u c r 0) else onT u c r) (48 + 9 * r' + 3) = u (48 + 9 * r' + 3) := by
              intro r'
              rw [onT_eq (by omega)]
              unfold onT
              rw [up_ne (by omega), up_ne (by omega), up_ne (by omega)]
            refine ⟨?_, ?_⟩
            · unfold CB
              rw [T (16 + 8 * c) (by omega), T (16 + 8 * c + 1) (by omega), T (16 + 8 * c + 2) (by omega), T (16 + 8 * c + 3) (by omega), T (16 + 8 * c + 4) (by omega), T (16 + 8 * c + 5) (by omega), T (16 + 8 * c + 6) (by omega), T (16 + 8 * c + 7) (by omega)]
              rw [if_neg (by omega), if_neg (by omega), if_neg (by omega), if_pos rfl, if_neg (by omega), if_neg (by omega), if_neg (by omega), if_neg (by omega)]
              refine ⟨q1, ?_, ?_, ?_, ?_, ?_, ?_, ?_, q9, ?_, ?_, ?_⟩
              · rw [hI_sL, gIk _ _ _ (by decide), gIk _ _ _ (by decide), gIk _ _ _ (by decide)]; exact q2
              · rw [hI_sL, gIk _ _ _ (by decide), gIk _ _ _ (by decide), gIk _ _ _ (by decide)]; exact q3
              · rw [hI_sL, gIk _ _ _ (by decide), gIk _ _ _ (by decide), gIk _ _ _ (by decide)]; exact q4
              · rw [hI_sL, gIk _ _ _ (by decide), gIk _ _ _ (by decide), gIk _ _ _ (by decide)]; exact q5
              · rw [hI_sL, gIk _ _ _ (by decide), gIk _ _ _ (by decide), gIk _ _ _ (by decide)]; exact q6
              · rw [hI_sL, gIk _ _ _ (by decide), gIk _ _ _ (by decide), gIk _ _ _ (by decide)]; exact q7
              · rw [hI_sL, gIk _ _ _ (by decide), gIk _ _ _ (by decide), gIk _ _ _ (by decide)]; exact q8
              · rw [hI_sL, gIk _ _ _ (by decide), gIk _ _ _ (by decide), gI, q10]
              · rw [hI_sL, gI, q11, hz]
              · intro i hi
                rw [T2, gLk _ _ _ (by decide)]
                exact q12 i hi
            · intro i hi hz64
              rw [T (16 + 8 * c + 3) (by omega), if_pos rfl, gL, ro.to, ← u3, hj1, n4, bL_set _ _ (by omega) hi]
              by_cases e : i = 4 * jt
              · rw [if_pos e]
                refine ⟨fun _ => ⟨r, by omega, ?_, jt, by rw [T3]; exact hj1, by omega, e⟩, fun _ => rfl⟩
                rw [bt_set _ r (by omega) r (by omega), if_pos rfl]
              · rw [if_neg e]
                refine (cg i hi hz64).trans ?_
                constructor
                · rintro ⟨r', z1, z2, z3⟩
                  refine ⟨r', z1, ?_, by rw [T3]; exact z3⟩
                  rw [bt_set _ r (by omega) r' (by omega)]
                  split
                  · rfl
                  · exact z2
                · rintro ⟨r', z1, z2, z3⟩
                  rw [T3] at z3
                  have hne : r' ≠ r := fun q => by
                    obtain ⟨j2, y1, y2, y3⟩ := z3
                    rw [q, hj1, nI_eq (by omega) (by omega)] at y1
                    omega
                  rw [bt_set _ r (by omega) r' (by omega), if_neg hne] at z2
                  exact ⟨r', z1, z2, z3⟩
          · rw [nextE, eN, hI_sL, hI_sL, gIk _ _ _ (by decide), gIk _ _ _ (by decide), gIk _ _ _ (by decide), gIk _ _ _ (by decide), gI]
            exact dr.on (by omega) (by omega) hR b1
  exact Cm.of (by decide) (Nat.le_of_ble_eq_true rfl) (vX2_takeIn_0 (loop nr 0 h (by omega) ⟨Fr1.refl _ _, rfl, rfl⟩ C D))
end CarIn2
