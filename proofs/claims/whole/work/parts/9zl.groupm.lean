/-! THE REFERENCE: group -/
section LayS
variable {l : Launch} {x : CX} {h h' : PH} {a : Nat}
theorem c_layS (hk : hK h a = (100, 7)) : CV l x mX8_layFirst 0 0 0 [.ref a] h (fun h' => SG (fun b _ => b = a) h h' ∧ ∀ k, k < 7 → hI h' a k = tZ k) := by
  have loop : ∀ (j i : Nat) (g : PH), i + j = 7 → SG (fun b _ => b = a) h g → (∀ k, k < i → hI g a k = -1) → Gm l x mX8_layFirst 0 2 [(0, .ref a), (1, .int (nI i))] [] g 0 0 (hN h) (fun v h' => v = none ∧ SG (fun b _ => b = a) h h' ∧ ∀ k, k < 7 → hI h' a k = tZ k) (fun _ _ => False) := by
    intro j
    induction j with
    | zero =>
      intro i g hi pg z
      obtain rfl : i = 7 := by omega
      have kg : hK g a = (100, 7) := by rw [pg.hK]; exact hk
      refine vX8_layFirst_2 ⟨fun _ => ⟨by rw [kg], by rw [kg]; exact vp_in_nI (n := 0) (by decide) (by decide), by rw [kg]; exact vp_in_nI (n := 1) (by decide) (by decide), by rw [kg]; exact vp_in_nI (n := 2) (by decide) (by decide), rfl, pg.trans (((SG.sI (P := fun b _ => b = a) rfl).trans (SG.sI rfl)).trans (SG.sI rfl)), fun k hk => ?_⟩, fun e => absurd (by decide) e⟩
      rw [show Int32.toNatClampNeg 0 = 0 from rfl, show Int32.toNatClampNeg 1 = 1 from rfl, show Int32.toNatClampNeg 2 = 2 from rfl, hI_sI, hI_sI, hI_sI]
      unfold tZ
      by_cases e2 : k = 2
      · rw [if_pos ⟨e2, rfl⟩, if_neg (by omega), if_neg (by omega), if_pos e2]
      · rw [if_neg fun q => e2 q.1]
        by_cases e1 : k = 1
        · rw [if_pos ⟨e1, rfl⟩, if_neg (by omega), if_pos e1]
        · rw [if_neg fun q => e1 q.1]
          by_cases e0 : k = 0
          · rw [if_pos ⟨e0, rfl⟩, if_pos e0]
          · rw [if_neg fun q => e0 q.1, if_neg e0, if_neg e1, if_neg e2]
            exact z k hk
    | succ j ih =>
      intro i g hi pg z
      have kg : hK g a = (100, 7) := by rw [pg.hK]; exact hk
      refine vX8_layFirst_2 ⟨fun e => absurd e (nI_ge (b := 7) (by omega) (by decide)), fun _ => ⟨by rw [kg], by rw [kg]; exact vp_in_nI (by omega) (by decide), ?_⟩⟩
      rw [nI_clamp (by omega), nI_1]
      refine ih (i + 1) _ (by omega) (pg.trans (SG.sI (P := fun b _ => b = a) rfl)) (fun k hk => ?_)
      rw [hI_sI]
      by_cases e : k = i
      · rw [if_pos ⟨e, rfl⟩]
      · rw [if_neg fun q => e q.1]
        exact z k (by omega)
  exact Cm.of (by decide) (Nat.le_of_ble_eq_true rfl) (vX8_layFirst_0 (loop 7 0 h rfl (SG.refl _ _) (fun k hk => absurd hk (Nat.not_lt_zero _))))
end LayS
theorem TD_cg {t t' ct ct' rt rt' : Nat → Int32} {nc nf nr : Nat} (T : TD t ct rt nc nf nr) (e : ∀ k, k < 7 → t' k = t k) (e2 : ∀ k, k < 12 → ct' k = ct k) (e3 : ∀ k, k < 80 → rt' k = rt k) : TD t' ct' rt' nc nf nr := by
  have tl : ∀ k, k < 7 → tellsT t' k = tellsT t k := fun k hk => by unfold tellsT; rw [e k hk]
  have c4 := T.c4
  have r20 := T.r20
  refine ⟨⟨⟨(e 0 (by decide)).trans T.tk.1.1, by rw [tl 3 (by decide)]; exact T.tk.1.2⟩, (e 1 (by decide)).trans T.tk.2⟩, T.f2, T.f12, T.c4, (e 2 (by decide)).trans T.t2, T.r20, fun c hc => ?_, fun c hc => ?_, fun r hr => ?_, ?_, ?_, ?_⟩
  · rw [e2 _ (by omega)]; exact T.ct' c hc
  · rw [e2 _ (by omega), e2 _ (by omega)]; exact T.ca c hc
  · rw [e3 _ (by omega), e3 _ (by omega), e3 _ (by omega), e3 _ (by omega)]; exact T.ri r hr
  · rw [tl 5 (by decide)]; exact T.po
  · rw [tl 4 (by decide)]; exact T.la
  · rw [tl 6 (by decide)]; exact T.pk
section GroupM
variable {l : Launch} {x : CX} {mo : Nat} {g h : PH} {tp : Nat → Int32} {n : Nat} {d : PD} {cl b : Nat} {rc rs n0 : Nat} {Q : Option Value → PH → Prop} {X : String → PH → Prop}
def grP (mo b j : Nat) : Prop := b = mo + 2 ∨ b = mo + 3 ∨ (mo + 4 ≤ b ∧ b ≤ mo + 9) ∨ (b = mo ∧ (j = 1 ∨ (11 ≤ j ∧ j ≤ 21) ∨ j = 24 ∨ j = 26 ∨ j = 34))
theorem rdP_gr {mo b j : Nat} (q : rdP mo b j) : grP mo b j := by unfold rdP at q; unfold grP; omega
def RG (mo : Nat) (tp : Nat → Int32) (n : Nat) (g : PH) (r : (Int32 × Nat) ⊕ PD) (h : PH) : Prop := match r with
  | .inl q => SBD mo g h q.1 q.2
  | .inr d => ∃ cl b, SOK mo tp n g h d cl b ∧ PDok d
theorem prs_l {k : Nat} {q : Int32 × Nat} (z : ¬ tkK tp n b = 0) (hr : clOf tp n d cl b = .inl q) : prs tp n (k + 1) d cl b = .inl q := by
  rw [prs, ite'_f z, hr]
theorem prs_r {k : Nat} {q : PD × Nat} (z : ¬ tkK tp n b = 0) (hr : clOf tp n d cl b = .inr q) : prs tp n (k + 1) d cl b = prs tp n k q.1 (cl + 1) q.2 := by
  rw [prs, ite'_f z, hr]
theorem prs_0 {k : Nat} (z : tkK tp n b = 0) : prs tp n (k + 1) d cl b = .inr d := by
  rw [prs, ite'_t z]
theorem l_gr64 {v : Int32} (w : GT mo tp n g) (xo : XO l x) : ∀ (k : Nat) (d : PD) (cl b : Nat) (h : PH), n < b + k → SOK mo tp n g h d cl b → PDok d → (cl = 0 → d.2.2.2.1 = 0 ∧ d.2.2.2.2.2 = 0) → cl ≤ b → (∀ h', RG mo tp n g (prs tp n k d cl b) h' → Gm l x mX8_group 9 85 [(0, .ref mo), (1, .int v)] [] h' rc rs n0 Q X) → Gm l x mX8_group 9 64 [(0, .ref mo), (1, .int v)] [] h rc rs n0 Q X
  | 0, d, cl, b, h, hk, S, _, _, _, _ => by have := S.2.2.2.2.2; omega
  | k + 1, d, cl, b, h, hk, S, hd, h0, hc, K => by
    have hn := w.2.2.2.1
    have hb := S.2.2.2.2.2
    have kl := tkK_lt (tp := tp) (n := n) (b := b)
    refine vX8_group_64 ⟨(w.sg S.1).1.1, fun y => absurd S.2.1 y, fun _ => ⟨fun y => K _ ?_, fun y => ⟨_, c_readClause S w xo hd (by omega), fun h6 q6 => ?_⟩⟩⟩
    · rw [S.2.2.2.2.1.2.1] at y
      have z : tkK tp n b = 0 := (nI_eq (b := 0) (by omega) (by decide)).mp y
      unfold prs
      rw [ite'_t z]
      exact ⟨cl, b, S, hd⟩
    · have z : ¬ tkK tp n b = 0 := fun e => y (by rw [S.2.2.2.2.1.2.1, e]; rfl)
      have G := good_clOf (cl := cl) hd hb z h0
      cases hr : clOf tp n d cl b with
      | inl q =>
        rw [prs_l z hr] at K
        rw [hr] at q6
        have S6 : SBD mo g h6 q.1 q.2 := q6
        exact vX8_group_64 ⟨(w.sg S6.1).1.1, fun _ => K _ S6, fun y => absurd (S6.2.1.symm.trans y) S6.2.2.1⟩
      | inr q =>
        rw [prs_r z hr] at K
        rw [hr] at q6
        have S6 : SOK mo tp n g h6 q.1 (cl + 1) q.2 := q6
        have G2 := G q.1 q.2 hr
        exact l_gr64 w xo k q.1 (cl + 1) q.2 h6 (by omega) S6 G2.1 (fun y => absurd y (by omega)) (by omega) K
theorem SB.gr {S : List Nat} {h' : PH} (a : SB S mo g h') (hS : ∀ s ∈ S, 2 ≤ s ∧ s ≤ 9) : SG (grP mo) g h' := ⟨a.1, a.2.1, a.2.2.1, fun b j hb => a.2.2.2 b (fun s hs e => hb (by have := hS s hs; unfold grP; omega)) j⟩
/-- what group leaves, when the text of n bytes is read -/
def GM (mo : Nat) (t ct rt : Nat → Int32) (D : DT) (g : PH) (p : (Int32 × Nat) ⊕ PD) (r : Int32) (h' : PH) : Prop := match p with
  | .inl q => r = q.1 ∧ hI h' mo 20 = nI q.2 ∧ RX mo t ct rt h' ∧ DK mo h' (D.1, D.2.1, D.2.2.1, up D.2.2.2 0 (D.2.2.2 0 + 1)) ∧ hI h' mo 34 = hI g mo 34
  | .inr d => r = 0 ∧ hI h' mo 20 = -1 ∧ hI h' mo 34 = 0 ∧ PDok d ∧ ∃ t' ct' rt', (∀ k, k < 7 → t' k = d.1 k) ∧ (∀ k, k < 12 → ct' k = d.2.1 k) ∧ (∀ k, k < 80 → rt' k = d.2.2.1 k) ∧ RX mo t' ct' rt' h' ∧ DK mo h' (bgF t' ct' rt' d.2.2.2.1 d.2.2.2.2.2, (0, D.2.1.2), (0, D.2.2.1.2), D.2.2.2)
theorem p_group {t ct rt : Nat → Int32} {D : DT} {tl : Nat} {v : Int32} (w : RX mo t ct rt g) (q : DK mo g D) (T : TP mo g tl tp) (ht : tl ≤ 900) (hby : BY tl tp) (xo : XO l x) : CI l x mX8_group 9 0 0 [.ref mo, .int v] g (fun r h' => (¬ inR v (tl + 1) ∧ r = 0 ∧ h' = sI (sI g mo 1 0) mo 1 1) ∨ ∃ n t0 ct0 rt0, n ≤ tl ∧ v = nI n ∧ (∀ k, k < 7 → t0 k = tZ k) ∧ SG (grP mo) g h' ∧ hI h' mo 1 = 0 ∧ TP mo h' 0 tp ∧ GM mo t ct rt D g (prs tp n (n + 1) (t0, ct0, rt0, 0, 8, 0) 0 (tokB tp n 0)) r h') := by
  have w0 := w.1.1
  have no : ¬ inR v (tl + 1) → ∃ (q3 : Int32 → PH → Prop), CI l x mX8_fail 0 0 0 [.ref mo, .int 1] (sI g mo 1 0) q3 ∧ ∀ (r6 : Int32) (h5 : PH), q3 r6 h5 → ∃ r, some (Value.int r6) = some (Value.int r) ∧ ((¬ inR v (tl + 1) ∧ r = 0 ∧ h5 = sI (sI g mo 1 0) mo 1 1) ∨ ∃ n t0 ct0 rt0, n ≤ tl ∧ v = nI n ∧ (∀ k, k < 7 → t0 k = tZ k) ∧ SG (grP mo) g h5 ∧ hI h5 mo 1 = 0 ∧ TP mo h5 0 tp ∧ GM mo t ct rt D g (prs tp n (n + 1) (t0, ct0, rt0, 0, 8, 0) 0 (tokB tp n 0)) r h5) := fun z => by
    refine ⟨_, c_fail w0, ?_⟩
    rintro r6 h5 ⟨rfl, rfl⟩
    exact ⟨_, rfl, Or.inl ⟨z, rfl, rfl⟩⟩
  refine Cm.of (by decide) (Nat.le_of_ble_eq_true rfl) (vX8_group_0 ⟨w0.1, fun z => no fun y => ?_, fun z => ?_⟩)
  · obtain ⟨c, hc, rfl⟩ := y
    exact absurd z (nI_pos (by omega))
  · obtain ⟨n, hn, rfl⟩ := nI_of z
    rw [T.1]
    refine ⟨fun z2 => ?_, fun z2 => no fun y => ?_⟩
    · have hle : n ≤ tl := Nat.le_of_not_lt fun y => absurd z2 (nI_ge y (by omega))
      have w5 := w0.row 5 5 7 (by decide)
      have k5 : hK g (mo + 5) = (100, 7) := Prod.ext w5.2.1 w5.2.2
      refine ⟨mo + 5, w5.1, _, c_layS k5, ?_⟩
      rintro h12 ⟨s12, e12⟩
      have s0 : SG (grP mo) g (sI (sI (sI (sI (sI (sI (sI g mo 1 0) mo 11 0) mo 13 (nI n)) mo 12 0) mo 18 0) mo 20 (-1)) mo 21 0) := ((((((SG.sI (by unfold grP; omega)).trans (SG.sI (by unfold grP; omega))).trans (SG.sI (by unfold grP; omega))).trans (SG.sI (by unfold grP; omega))).trans (SG.sI (by unfold grP; omega))).trans (SG.sI (by unfold grP; omega))).trans (SG.sI (by unfold grP; omega))
      have F : ∀ j, hI h12 mo j = hI (sI (sI (sI (sI (sI (sI (sI g mo 1 0) mo 11 0) mo 13 (nI n)) mo 12 0) mo 18 0) mo 20 (-1)) mo 21 0) mo j := fun j => s12.2.2.2 mo j (by omega)
      have f1 : hI h12 mo 1 = 0 := by rw [F, gIk _ _ _ (by decide), gIk _ _ _ (by decide), gIk _ _ _ (by decide), gIk _ _ _ (by decide), gIk _ _ _ (by decide), gIk _ _ _ (by decide), gI]
      have f11 : hI h12 mo 11 = 0 := by rw [F, gIk _ _ _ (by decide), gIk _ _ _ (by decide), gIk _ _ _ (by decide), gIk _ _ _ (by decide), gIk _ _ _ (by decide), gI]
      have f13 : hI h12 mo 13 = nI n := by rw [F, gIk _ _ _ (by decide), gIk _ _ _ (by decide), gIk _ _ _ (by decide), gIk _ _ _ (by decide), gI]
      have f12 : hI h12 mo 12 = nI 0 := by rw [F, gIk _ _ _ (by decide), gIk _ _ _ (by decide), gIk _ _ _ (by decide), gI]; rfl
      have f18 : hI h12 mo 18 = 0 := by rw [F, gIk _ _ _ (by decide), gIk _ _ _ (by decide), gI]
      have f20 : hI h12 mo 20 = -1 := by rw [F, gIk _ _ _ (by decide), gI]
      have f21 : hI h12 mo 21 = nI 0 := by rw [F, gI]; rfl
      have fo : ∀ j, ¬ (j = 1 ∨ (11 ≤ j ∧ j ≤ 21)) → hI h12 mo j = hI g mo j := fun j hj => by rw [F, gIk _ _ _ (by omega), gIk _ _ _ (by omega), gIk _ _ _ (by omega), gIk _ _ _ (by omega), gIk _ _ _ (by omega), gIk _ _ _ (by omega), gIk _ _ _ (by omega)]
      have ro : ∀ c j, c ≠ mo → c ≠ mo + 5 → hI h12 c j = hI g c j := fun c j h1 h2 => by rw [s12.2.2.2 c j h2, gIa _ _ _ _ h1, gIa _ _ _ _ h1, gIa _ _ _ _ h1, gIa _ _ _ _ h1, gIa _ _ _ _ h1, gIa _ _ _ _ h1, gIa _ _ _ _ h1]
      have sG12 : SG (grP mo) g h12 := s0.trans (s12.mo fun b j e => by unfold grP; omega)
      clear F s0 s12
      have wG : GT mo tp n h12 := ⟨sG12.mw w0, f13, fun i hi => by rw [ro _ _ (by omega) (by omega)]; exact T.2 i (by omega), by omega, fun i hi => hby i (by omega)⟩
      refine ⟨wG.1.1, _, c_stepOn wG (Nat.zero_le n) f12, ?_⟩
      rintro h16 ⟨s16, t16⟩
      have o16 : ∀ (c j : Nat), ¬ stP mo c j → hI h16 c j = hI h12 c j := s16.2.2.2
      have S16 : SOK mo tp n h12 h16 (fun j => hI h12 (mo + 5) j, fun j => hI h12 (mo + 7) j, fun j => hI h12 (mo + 9) j, 0, 8, 0) 0 (tokB tp n 0) :=
        ⟨s16.mo fun _ _ => stP_rd, (o16 _ _ (by unfold stP; omega)).trans f18, (o16 _ _ (by unfold stP; omega)).trans f21, ⟨fun j => o16 _ _ (by unfold stP; omega), fun j => o16 _ _ (by unfold stP; omega), fun j => o16 _ _ (by unfold stP; omega)⟩, t16, (tokB_le (Nat.zero_le n)).2⟩
      refine l_gr64 wG xo (n + 1) _ 0 _ h16 (by omega) S16 (TD_zero e12) (fun _ => ⟨rfl, rfl⟩) (Nat.zero_le _) fun h' qR => ?_
      cases hp : prs tp n (n + 1) (fun j => hI h12 (mo + 5) j, fun j => hI h12 (mo + 7) j, fun j => hI h12 (mo + 9) j, 0, 8, 0) 0 (tokB tp n 0) with
      | inl p =>
        rw [hp] at qR
        have S : SBD mo h12 h' p.1 p.2 := qR
        have r3 := (wG.sg S.1).1.row 3 3 3 (by decide)
        have v0 : vp_in 0 (hK h' (mo + 3)).2 := by rw [r3.2.2]; exact vp_in_nI (n := 0) (by decide) (by decide)
        refine vX8_group_85 ⟨(wG.sg S.1).1.1, fun y => absurd (S.2.1.symm.trans y) S.2.2.1, fun _ => ⟨mo + 3, r3.1, r3.2.1, v0, v0, _, rfl, Or.inr ⟨n, fun j => hI h12 (mo + 5) j, fun j => hI h12 (mo + 7) j, fun j => hI h12 (mo + 9) j, hle, rfl, e12, ?_, ?_, ⟨?_, fun i hi => absurd hi (Nat.not_lt_zero _)⟩, ?_⟩⟩⟩
        · exact (sG12.trans (S.1.mo fun _ _ => rdP_gr)).trans ((SG.sI (by unfold grP; omega)).trans (SG.sI (by unfold grP; omega)))
        · rw [gIa _ _ _ _ (by omega), gIk _ _ _ (by decide), S.1.2.2.2 _ _ (by unfold rdP; omega)]; exact f1
        · rw [gIa _ _ _ _ (by omega), gIk _ _ _ (by decide), S.1.2.2.2 _ _ (by unfold rdP; omega)]; exact f11
        · rw [hp]
          have R : ∀ c j, c ≠ mo → c ≠ mo + 3 → c ≠ mo + 5 → c ≠ mo + 7 → c ≠ mo + 9 → hI (sI (sI h' mo 20 (hI h' mo 19)) (mo + 3) (Int32.toNatClampNeg 0) (hI (sI h' mo 20 (hI h' mo 19)) (mo + 3) (Int32.toNatClampNeg 0) + 1)) c j = hI g c j := fun c j h1 h2 h3 h4 h5 => by
            rw [gIa _ _ _ _ h2, gIa _ _ _ _ h1, S.1.2.2.2 _ _ (by unfold rdP; omega)]
            exact ro _ _ h1 h3
          have Fd : ∀ j, ¬ (j = 1 ∨ (11 ≤ j ∧ j ≤ 21)) → hI (sI (sI h' mo 20 (hI h' mo 19)) (mo + 3) (Int32.toNatClampNeg 0) (hI (sI h' mo 20 (hI h' mo 19)) (mo + 3) (Int32.toNatClampNeg 0) + 1)) mo j = hI g mo j := fun j h1 => by
            rw [gIa _ _ _ _ (by omega), gIk _ _ _ (by omega), S.1.2.2.2 _ _ (by unfold rdP; omega)]
            exact fo _ h1
          have r30 : ∀ j, hI h' (mo + 3) j = hI g (mo + 3) j := fun j => by
            rw [S.1.2.2.2 _ _ (by unfold rdP; omega)]
            exact ro _ _ (by omega) (by omega)
          refine ⟨?_, ?_, ⟨⟨(wG.sg S.1).1, fun k => ?_, fun k => ?_⟩, fun k => ?_⟩, ⟨fun j hj => ?_, ⟨?_, fun i hi j hj => ?_⟩, ⟨?_, fun i hi => ⟨?_, ?_⟩⟩, fun i hi => ?_⟩, ?_⟩
          · rw [gIa _ _ _ _ (by omega), gIk _ _ _ (by decide)]; exact S.2.1
          · rw [gIa _ _ _ _ (by omega), gI]; exact S.2.2.2
          · rw [R _ _ (by omega) (by omega) (by omega) (by omega) (by omega)]; exact w.1.2.1 k
          · rw [R _ _ (by omega) (by omega) (by omega) (by omega) (by omega)]; exact w.1.2.2 k
          · rw [R _ _ (by omega) (by omega) (by omega) (by omega) (by omega)]; exact w.2 k
          · rw [R _ _ (by omega) (by omega) (by omega) (by omega) (by omega)]; exact q.1 j hj
          · rw [Fd _ (by omega)]; exact q.2.1.1
          · rw [R _ _ (by omega) (by omega) (by omega) (by omega) (by omega)]; exact q.2.1.2 i hi j hj
          · rw [Fd _ (by omega)]; exact q.2.2.1.1
          · rw [R _ _ (by omega) (by omega) (by omega) (by omega) (by omega)]; exact (q.2.2.1.2 i hi).1
          · rw [R _ _ (by omega) (by omega) (by omega) (by omega) (by omega)]; exact (q.2.2.1.2 i hi).2
          · show _ = up D.2.2.2 0 (D.2.2.2 0 + 1) i
            unfold up
            by_cases z0 : i = 0
            · rw [z0, if_pos rfl, show Int32.toNatClampNeg 0 = 0 from rfl, gI, gIa _ _ _ _ (by omega), r30, q.2.2.2 0 (by decide)]
            · rw [if_neg z0, show Int32.toNatClampNeg 0 = 0 from rfl, gIk _ _ _ z0, gIa _ _ _ _ (by omega), r30]; exact q.2.2.2 i hi
          · exact Fd _ (by omega)
      | inr d =>
        rw [hp] at qR
        obtain ⟨cl, b, S, hd⟩ := qR
        have wh := (wG.sg S.1).1
        refine vX8_group_85 ⟨wh.1, fun _ => ⟨mo + 4, (wh.row 4 4 7 (by decide)).1, mo + 5, (wh.row 5 5 7 (by decide)).1, _, r_copy (a := 4) (b := 5) (n := 7) (ka := 4) (kb := 5) wh (by decide) (by decide) (by decide) (by decide), ?_⟩, fun y => absurd S.2.1 y⟩
        rintro h9 ⟨s9, e9⟩
        have w9 := s9.mw wh
        refine ⟨w9.1, mo + 6, (w9.row 6 6 12 (by decide)).1, mo + 7, (w9.row 7 7 12 (by decide)).1, _, r_copy (a := 6) (b := 7) (n := 12) (ka := 6) (kb := 7) w9 (by decide) (by decide) (by decide) (by decide), ?_⟩
        rintro h17 ⟨s17, e17⟩
        have w17 := s17.mw w9
        refine ⟨w17.1, mo + 8, (w17.row 8 8 80 (by decide)).1, mo + 9, (w17.row 9 9 80 (by decide)).1, _, r_copy (a := 8) (b := 9) (n := 80) (ka := 8) (kb := 9) w17 (by decide) (by decide) (by decide) (by decide), ?_⟩
        rintro h25 ⟨s25, e25⟩
        have w25 := s25.mw w17
        have tt : ∀ k, k < 7 → hI h25 (mo + 4) k = d.1 k := fun k hk => by
          rw [s25.rowE (by decide), s17.rowE (by decide), e9 k hk]; exact S.2.2.2.1.1 k
        have tc : ∀ k, k < 12 → hI h25 (mo + 6) k = d.2.1 k := fun k hk => by
          rw [s25.rowE (by decide), e17 k hk, s9.rowE (by decide)]; exact S.2.2.2.1.2.1 k
        have tr : ∀ k, k < 80 → hI h25 (mo + 8) k = d.2.2.1 k := fun k hk => by
          rw [e25 k hk, s17.rowE (by decide), s9.rowE (by decide)]; exact S.2.2.2.1.2.2 k
        have X25 : RX mo (fun k => hI h25 (mo + 4) k) (fun k => hI h25 (mo + 6) k) (fun k => hI h25 (mo + 8) k) h25 := ⟨⟨w25, fun _ => rfl, fun _ => rfl⟩, fun _ => rfl⟩
        have hd' : TD d.1 d.2.1 d.2.2.1 d.2.2.2.1 d.2.2.2.2.1 d.2.2.2.2.2 := hd
        refine ⟨w25.1, _, r_begin (nc := d.2.2.2.1) (nr := d.2.2.2.2.2) X25 ((tt 1 (by decide)).trans hd'.tk.2) hd'.c4 ((tt 2 (by decide)).trans hd'.t2) hd'.r20, ?_⟩
        rintro h29 ⟨s29, n29⟩
        have w29 := s29.mw w25
        have R : ∀ c j, c ≠ 0 → c ≠ 2 → c ≠ 4 → c ≠ 5 → c ≠ 6 → c ≠ 7 → c ≠ 8 → c ≠ 9 → hI (sI (sI (sI h29 mo 24 0) mo 26 0) mo 34 0) (mo + c) j = hI g (mo + c) j := fun c j c0 c2 c4 c5 c6 c7 c8 c9 => by
          rw [gIa _ _ _ _ (by omega), gIa _ _ _ _ (by omega), gIa _ _ _ _ (by omega), s29.rowE (by simp [c2]), s25.rowE (by simp [c8]), s17.rowE (by simp [c6]), s9.rowE (by simp [c4]), S.1.2.2.2 _ _ (by unfold rdP; omega)]
          exact ro _ _ (by omega) (by omega)
        have Fr : ∀ j, j ≠ 24 → j ≠ 26 → j ≠ 34 → ¬ rdP mo mo j → hI (sI (sI (sI h29 mo 24 0) mo 26 0) mo 34 0) mo j = hI h12 mo j := fun j h1 h2 h3 h4 => by
          rw [gIk _ _ _ h3, gIk _ _ _ h2, gIk _ _ _ h1, s29.fldE (by decide), s25.fldE (by decide), s17.fldE (by decide), s9.fldE (by decide), S.1.2.2.2 _ _ h4]
        refine ⟨w29.1, _, rfl, Or.inr ⟨n, fun j => hI h12 (mo + 5) j, fun j => hI h12 (mo + 7) j, fun j => hI h12 (mo + 9) j, hle, rfl, e12, ?_, ?_, ⟨?_, fun i hi => absurd hi (Nat.not_lt_zero _)⟩, ?_⟩⟩
        · exact (((((sG12.trans (S.1.mo fun _ _ => rdP_gr)).trans (s9.gr (by decide))).trans (s17.gr (by decide))).trans (s25.gr (by decide))).trans (s29.gr (by decide))).trans (((SG.sI (by unfold grP; omega)).trans (SG.sI (by unfold grP; omega))).trans (SG.sI (by unfold grP; omega)))
        · rw [Fr _ (by decide) (by decide) (by decide) (by unfold rdP; omega)]; exact f1
        · rw [Fr _ (by decide) (by decide) (by decide) (by unfold rdP; omega)]; exact f11
        · rw [hp]
          refine ⟨rfl, ?_, gI _ _ _ _, hd, _, _, _, tt, tc, tr, ⟨⟨w29, fun k => ?_, fun k => ?_⟩, fun k => ?_⟩, ⟨fun j hj => ?_, ⟨?_, fun i hi => absurd hi (Nat.not_lt_zero _)⟩, ⟨?_, fun i hi => absurd hi (Nat.not_lt_zero _)⟩, fun i hi => ?_⟩⟩
          · rw [Fr _ (by decide) (by decide) (by decide) (by unfold rdP; omega)]; exact f20
          · rw [gIa _ _ _ _ (by omega), gIa _ _ _ _ (by omega), gIa _ _ _ _ (by omega), s29.rowE (by decide)]
          · rw [gIa _ _ _ _ (by omega), gIa _ _ _ _ (by omega), gIa _ _ _ _ (by omega), s29.rowE (by decide)]
          · rw [gIa _ _ _ _ (by omega), gIa _ _ _ _ (by omega), gIa _ _ _ _ (by omega), s29.rowE (by decide)]
          · rw [gIa _ _ _ _ (by omega), gIa _ _ _ _ (by omega), gIa _ _ _ _ (by omega)]; exact n29 j hj
          · rw [gIk _ _ _ (by decide), gIk _ _ _ (by decide), gI]; rfl
          · rw [gIk _ _ _ (by decide), gI]; rfl
          · rw [R 3 _ (by decide) (by decide) (by decide) (by decide) (by decide) (by decide) (by decide) (by decide)]; exact q.2.2.2 i hi
    · obtain ⟨c, hc, e⟩ := y
      rw [e] at z2
      exact z2 (nI_le (by omega) (by omega))
end GroupM
