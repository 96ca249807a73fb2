/-! ROWS: a call that is given has somebody waiting; a row that sleeps -/
section Aw
variable {c nc nf nr m : Nat} {f f' g u t ct : Nat → Int32}
def AwI (f : Nat → Int32) (nr : Nat) : Prop := ∀ i, i < 48 → ¬ f (264 + i) = 0 → wts f nr i
theorem wts.mono {i : Nat} (q : wts f nr i) (e : ∀ r, r < nr → f (48 + 9 * r + 4) = 1 → f' (48 + 9 * r + 4) = 1 ∧ f' (48 + 9 * r + 5) = f (48 + 9 * r + 5) ∧ f' (48 + 9 * r + 3) = f (48 + 9 * r + 3) ∧ f' (48 + 9 * r) = f (48 + 9 * r)) : wts f' nr i := by
  obtain ⟨r, a1, a2, w, s, a3, a4, a5, a6, a7, a8⟩ := q
  obtain ⟨e1, e2, e3, e4⟩ := e r a1 a2
  refine ⟨r, a1, e1, w, s, e2.trans a3, a4, e4.trans a5, a6, a7, ?_⟩
  have : wayR f' r = wayR f r := by unfold wayR; rw [e2, e3]
  rw [this]
  exact a8
theorem AwI.same (q : AwI f nr) (ek : ∀ i, i < 48 → f' (264 + i) = f (264 + i) ∨ f' (264 + i) = 0) (e : ∀ r, r < nr → f (48 + 9 * r + 4) = 1 → f' (48 + 9 * r + 4) = 1 ∧ f' (48 + 9 * r + 5) = f (48 + 9 * r + 5) ∧ f' (48 + 9 * r + 3) = f (48 + 9 * r + 3) ∧ f' (48 + 9 * r) = f (48 + 9 * r)) : AwI f' nr := by
  intro i hi hn
  rcases ek i hi with z | z
  · exact (q i hi (by rw [← z]; exact hn)).mono e
  · exact absurd z hn
theorem AwI.com {r : Nat} (q : AwI f nr) (hr : r < 24) (hn : nr ≤ 24) (h0 : f (48 + 9 * r + 4) = 0) : AwI (comC f r) nr := by
  refine q.same (fun i hi => Or.inl (com_pl hr (by omega) (by omega) (by omega) (by omega))) fun r' hr' h1 => ?_
  have : r' ≠ r := fun e => by rw [e, h0] at h1; exact absurd h1 (by decide)
  rw [com_pl hr (by omega) (by omega) (by omega) (by omega), com_pl hr (by omega) (by omega) (by omega) (by omega), com_pl hr (by omega) (by omega) (by omega) (by omega), com_pl hr (by omega) (by omega) (by omega) (by omega)]
  exact ⟨h1, rfl, rfl, rfl⟩
theorem giv_pl {fl s : Nat} {z : Int32} {j : Nat} (hj : j < 264) (h4 : j ≠ 4) : givC t ct nr nf nc m fl s z f j = f j := by
  have hk : ∀ v, up f (kix fl z s) v j = f j := fun v => up_ne (by unfold kix; omega)
  have hG : givG t ct nr nf nc m fl s z f j = f j := by
    unfold givG
    split
    · exact hk _
    · split
      · rw [up_ne h4]; exact hk _
      · exact hk _
  unfold givC
  split
  · rfl
  · split
    · exact hG
    · split
      · rfl
      · exact hG
theorem giv_hi {fl s i : Nat} {z : Int32} (hne : 264 + i ≠ kix fl z s) : givC t ct nr nf nc m fl s z f (264 + i) = f (264 + i) := by
  have hk : ∀ v, up f (kix fl z s) v (264 + i) = f (264 + i) := fun v => up_ne hne
  have hG : givG t ct nr nf nc m fl s z f (264 + i) = f (264 + i) := by
    unfold givG
    split
    · exact hk _
    · split
      · rw [up_ne (by omega)]; exact hk _
      · exact hk _
  unfold givC
  split
  · rfl
  · split
    · exact hG
    · split
      · rfl
      · exact hG
theorem AwI.giv {fl s : Nat} {z : Int32} (q : AwI f nr) (hn : nr ≤ 24) (hz : z = 1 ∨ z = -1) (h1 : 1 ≤ s) (h2 : s ≤ 2) (hfl : fl < 12) : AwI (givC t ct nr nf nc m fl s z f) nr := by
  have e : ∀ r, r < nr → f (48 + 9 * r + 4) = 1 → givC t ct nr nf nc m fl s z f (48 + 9 * r + 4) = 1 ∧ givC t ct nr nf nc m fl s z f (48 + 9 * r + 5) = f (48 + 9 * r + 5) ∧ givC t ct nr nf nc m fl s z f (48 + 9 * r + 3) = f (48 + 9 * r + 3) ∧ givC t ct nr nf nc m fl s z f (48 + 9 * r) = f (48 + 9 * r) := fun r hr h1 => by
    rw [giv_pl (by omega) (by omega), giv_pl (by omega) (by omega), giv_pl (by omega) (by omega), giv_pl (by omega) (by omega)]
    exact ⟨h1, rfl, rfl, rfl⟩
  intro i hi hne
  by_cases ek : 264 + i = kix fl z s
  · by_cases ic : icA f (nI fl) z (nI s) nr = 0
    · have eg : givC t ct nr nf nc m fl s z f = f := if_pos ic
      rw [eg] at hne ⊢
      exact q i hi hne
    · exact ((wts_ic hz h1 h2 hfl ek.symm).mpr ic).mono e
  · rw [giv_hi ek] at hne
    exact (q i hi hne).mono e
theorem opA_w {y : Int32} {r k : Nat} (I : Inv ct nc nf nr m g) (hc : c < nc) (hr : r < nr) (hk : k < 9) (h1 : g (48 + 9 * r + 4) = 1) : ∀ n, n ≤ nr → opA g c y n (48 + 9 * r + k) = g (48 + 9 * r + k) ∧ opA g c y n (48 + 9 * r + 4) = 1
  | 0, _ => ⟨rfl, h1⟩
  | n + 1, h => by
    have hC := I.hc
    have hR := I.hr
    obtain ⟨i1, i2⟩ := opA_w (y := y) I hc hr hk h1 n (by omega)
    have In := I.i_opA (y := y) hc n (by omega)
    unfold opA offR
    by_cases e : n = r
    · subst e
      have : abit (opA g c y n (16 + 8 * c + 3)) n = 0 := by
        rw [abit_0 (by omega)]
        cases hb : bt (opA g c y n (16 + 8 * c + 3)) n with
        | false => rfl
        | true =>
          have := (In.abo c hc n (by omega) hb).2.1
          rw [i2] at this
          exact absurd this (by decide)
      rw [if_pos this]
      exact ⟨i1, i2⟩
    · unfold arrivesR
      split
      · exact ⟨i1, i2⟩
      · split
        · rw [up_ne (by omega), up_ne (by omega), up_ne (by omega), up_ne (by omega), up_ne (by omega), up_ne (by omega), up_ne (by omega), up_ne (by omega)]
          exact ⟨i1, i2⟩
        · exact ⟨i1, i2⟩
theorem opB_w {y w : Int32} {r : Nat} (hc : c < 4) (h1 : g (48 + 9 * r + 4) = 1) : ∀ n, (∀ k, k < 9 → opB ct g c y w n (48 + 9 * r + k) = g (48 + 9 * r + k)) ∨ (g (48 + 9 * r + 5) = y ∧ wayR g r = w ∧ ¬ takesC ct c (g (48 + 9 * r)) = 0)
  | 0 => Or.inl fun _ _ => rfl
  | n + 1 => by
    rcases opB_w (y := y) (w := w) hc h1 n with i1 | i2
    · by_cases e : n = r
      · subst e
        by_cases q : fullC (opB ct g c y w n) c = 0 ∧ opB ct g c y w n (48 + 9 * n + 4) = 1 ∧ opB ct g c y w n (48 + 9 * n + 5) = y ∧ wayR (opB ct g c y w n) n = w ∧ ¬ takesC ct c (opB ct g c y w n (48 + 9 * n)) = 0
        · refine Or.inr ⟨(i1 5 (by omega)).symm.trans q.2.2.1, ?_, ?_⟩
          · rw [← q.2.2.2.1]
            unfold wayR
            rw [i1 3 (by omega), i1 5 (by omega)]
          · have e0 : opB ct g c y w n (48 + 9 * n) = g (48 + 9 * n) := i1 0 (by omega)
            rw [← e0]
            exact q.2.2.2.2
        · refine Or.inl fun k hk => ?_
          unfold opB onR
          rw [if_neg q]
          exact i1 k hk
      · refine Or.inl fun k hk => ?_
        refine Eq.trans ?_ (i1 k hk)
        rw [opB]
        unfold onR onT
        split
        · split
          · rw [up_ne (by omega), up_ne (by omega), up_ne (by omega), up_ne (by omega)]
          · rw [up_ne (by omega), up_ne (by omega), up_ne (by omega)]
        · rfl
    · exact Or.inr i2
theorem AwI.i_stR {k : Nat} (q : AwI u nr) (I : Inv ct nc nf nr m u) (hc : c < nc) : AwI (stR t ct nr nf k c u) nr := by
  have hC := I.hc
  have hR := I.hr
  have hF12 := I.hF
  by_cases hv : stV nr nf c u = 0
  · have rid : ∀ j, 48 ≤ j → stR t ct nr nf k c u j = u j := by
      intro j hj
      unfold stR stepR
      by_cases z : stepG u c (16 + 8 * c + 2) ≤ 0
      · have eo : opensHereC (stepG u c) nr nf c (flo u c) = 0 := by
          unfold stV stepV at hv
          rw [if_pos z] at hv
          exact hv
        rw [if_pos z, if_pos eo, pl_goes (by omega) (by omega) (by omega) (by omega), pl_stG (by omega)]
      · rw [if_neg z, pl_stG (by omega)]
    refine q.same (fun i hi => Or.inl (rid _ (by omega))) fun r hr h1 => ?_
    rw [rid _ (by omega), rid _ (by omega), rid _ (by omega), rid _ (by omega)]
    exact ⟨h1, rfl, rfl, rfl⟩
  · have ed : stepG u c (16 + 8 * c + 2) ≤ 0 := by
      by_cases z : stepG u c (16 + 8 * c + 2) ≤ 0
      · exact z
      · unfold stV stepV at hv
        rw [if_neg z] at hv
        exact absurd rfl hv
    have eo : ¬ opensHereC (stepG u c) nr nf c (flo u c) = 0 := by
      unfold stV stepV at hv
      rw [if_pos ed] at hv
      exact hv
    have I1 := I.i_stepG hc
    obtain ⟨fl1, fl2⟩ := I.i_flo hc
    generalize hw : opW (opG (stepG u c) c (flo u c) nr) nr nf c (flo u c) = w
    have sE : stR t ct nr nf k c u = worksC (up (opX ct (opB ct (up (opG (stepG u c) c (flo u c) nr) (16 + 8 * c + 1) w) c (nI (flo u c)) w nr) c (flo u c) w) (16 + 8 * c + 2) (tellsT t 3)) c 1053609165 := by
      unfold stR stepR
      rw [if_pos ed, if_neg eo]
      unfold opensC opEnd opH
      rw [hw]
    have pl : ∀ j, 48 ≤ j → worksC (up (opX ct (opB ct (up (opG (stepG u c) c (flo u c) nr) (16 + 8 * c + 1) w) c (nI (flo u c)) w nr) c (flo u c) w) (16 + 8 * c + 2) (tellsT t 3)) c 1053609165 j = opX ct (opB ct (up (opG (stepG u c) c (flo u c) nr) (16 + 8 * c + 1) w) c (nI (flo u c)) w nr) c (flo u c) w j := fun j hj => by
      unfold worksC
      rw [up_ne (by omega), up_ne (by omega)]
    have wait : ∀ r, r < nr → u (48 + 9 * r + 4) = 1 → (∀ k, k < 9 → opB ct (up (opG (stepG u c) c (flo u c) nr) (16 + 8 * c + 1) w) c (nI (flo u c)) w nr (48 + 9 * r + k) = u (48 + 9 * r + k)) ∨ (u (48 + 9 * r + 5) = nI (flo u c) ∧ wayR u r = w ∧ ¬ takesC ct c (u (48 + 9 * r)) = 0) := by
      intro r hr h1
      have s1 : stepG u c (48 + 9 * r + 4) = 1 := by rw [pl_stG (by omega)]; exact h1
      have base : ∀ k, k < 9 → up (opG (stepG u c) c (flo u c) nr) (16 + 8 * c + 1) w (48 + 9 * r + k) = u (48 + 9 * r + k) := fun k hk => by
        rw [up_ne (by omega)]
        unfold opG
        rw [(opA_w I1 hc hr hk s1 nr (Nat.le_refl _)).1, pl_stG (by omega)]
      rcases opB_w (ct := ct) (g := up (opG (stepG u c) c (flo u c) nr) (16 + 8 * c + 1) w) (y := nI (flo u c)) (w := w) (by omega : c < 4) ((base 4 (by omega)).trans h1) nr with z | ⟨z1, z2, z3⟩
      · exact Or.inl fun k hk => (z k hk).trans (base k hk)
      · refine Or.inr ⟨(base 5 (by omega)).symm.trans z1, ?_, ?_⟩
        · rw [← z2]
          unfold wayR
          rw [base 3 (by omega), base 5 (by omega)]
        · have b0 : up (opG (stepG u c) c (flo u c) nr) (16 + 8 * c + 1) w (48 + 9 * r) = u (48 + 9 * r) := base 0 (by omega)
          rw [← b0]
          exact z3
    rw [sE]
    intro i hi hne
    rw [pl _ (by omega)] at hne
    have v0 : opB ct (up (opG (stepG u c) c (flo u c) nr) (16 + 8 * c + 1) w) c (nI (flo u c)) w nr (264 + i) = u (264 + i) := by
      unfold opG
      rw [hi_opB (by omega) (by omega) nr hR, up_ne (by omega), hi_opA (by omega) (by omega) nr hR, pl_stG (by omega)]
    rcases opX_ans (ct := ct) (g := opB ct (up (opG (stepG u c) c (flo u c) nr) (16 + 8 * c + 1) w) c (nI (flo u c)) w nr) (c := c) (fl := flo u c) (w := w) (i := i) with p | p
    · exact absurd p.1 hne
    · rw [p.1, v0] at hne
      obtain ⟨r, a1, a2, w0, s, a3, a4, a5, a6, a7, a8⟩ := q i hi hne
      rcases wait r a1 a2 with z | ⟨z1, z2, z3⟩
      · have tr : ∀ k, k < 9 → worksC (up (opX ct (opB ct (up (opG (stepG u c) c (flo u c) nr) (16 + 8 * c + 1) w) c (nI (flo u c)) w nr) c (flo u c) w) (16 + 8 * c + 2) (tellsT t 3)) c 1053609165 (48 + 9 * r + k) = u (48 + 9 * r + k) := fun k hk => by
          rw [pl _ (by omega), opX_to (by omega) hk]
          exact z k hk
        refine ⟨r, a1, (tr 4 (by omega)).trans a2, w0, s, (tr 5 (by omega)).trans a3, a4, (tr 0 (by omega)).trans a5, a6, a7, ?_⟩
        have : wayR (worksC (up (opX ct (opB ct (up (opG (stepG u c) c (flo u c) nr) (16 + 8 * c + 1) w) c (nI (flo u c)) w nr) c (flo u c) w) (16 + 8 * c + 2) (tellsT t 3)) c 1053609165) r = wayR u r := by
          unfold wayR
          rw [tr 3 (by omega), tr 5 (by omega)]
        rw [this]
        exact a8
      · refine absurd ?_ p.2
        rw [a3, nI_eq (by omega) (by omega)] at z1
        rw [a5] at z3
        refine ⟨?_, ?_⟩
        · rw [← z2]
          rcases way_pm (f := u) (r := r) with y | y <;> rw [y] <;> decide
        · rw [z1, z2] at a8
          have : s = 1 ∨ s = 2 := by omega
          rcases this with rfl | rfl
          · exact Or.inl ⟨a8.symm, z3⟩
          · exact Or.inr ⟨a8.symm, z3⟩
end Aw
