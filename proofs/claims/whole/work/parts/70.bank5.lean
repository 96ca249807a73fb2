/-! THE CLASS: a car that opened is settled; all cars move -/
section Bank5
variable {l : Launch} {x : CX} {h h' : PH} {o a c nc nf nr m : Nat} {f f' g g' t ct : Nat → Int32}
theorem k_board {b r : Nat} {v tm : Int32} (hk : (hK h b).1 = 6) (q : RO h b f r) (e : ∀ k, k < 9 → g (48 + 9 * r + k) = if k = 4 then 2 else if k = 5 then v else if k = 8 then (if f (48 + 9 * r + 8) = -1 then tm else f (48 + 9 * r + 8)) else f (48 + 9 * r + k)) : CV l x mX6_board 0 0 0 [.ref b, .int v, .int tm] h (fun h' => Fr1 b h h' ∧ RO h' b g r) := by
  obtain ⟨q0, q1, q2, q3, q4, q5, q6, q7, q8, q9⟩ := q
  have g0 : g (48 + 9 * r) = f (48 + 9 * r) := e 0 (by omega)
  have g8 : g (48 + 9 * r + 8) = if f (48 + 9 * r + 8) = -1 then tm else f (48 + 9 * r + 8) := e 8 (by omega)
  refine Cm.of (by decide) (Nat.le_of_ble_eq_true rfl) (vX6_board_0 ⟨hk, fun z => ⟨rfl, ((Fr1.refl b h).sI _ _).sI _ _, ?_, ?_, ?_, ?_, ?_, ?_, ?_, ?_, ?_, ?_⟩, fun z => ⟨rfl, (((Fr1.refl b h).sI _ _).sI _ _).sI _ _, ?_, ?_, ?_, ?_, ?_, ?_, ?_, ?_, ?_, ?_⟩⟩)
  · rw [gIk _ _ _ (by decide), gIk _ _ _ (by decide), g0]; exact q0
  · rw [gIk _ _ _ (by decide), gIk _ _ _ (by decide), e 1 (by omega)]; exact q1
  · rw [gIk _ _ _ (by decide), gIk _ _ _ (by decide), e 2 (by omega)]; exact q2
  · rw [gIk _ _ _ (by decide), gIk _ _ _ (by decide), e 3 (by omega)]; exact q3
  · rw [gIk _ _ _ (by decide), gI, e 4 (by omega)]; rfl
  · rw [gI, e 5 (by omega)]; rfl
  · intro y
    rw [e 4 (by omega), if_pos rfl] at y
    exact absurd y (by decide)
  · rw [gIk _ _ _ (by decide), gIk _ _ _ (by decide), e 6 (by omega)]; exact q7
  · rw [gIk _ _ _ (by decide), gIk _ _ _ (by decide), g8, if_neg (q8 ▸ z)]; exact q8
  · rw [gIk _ _ _ (by decide), gIk _ _ _ (by decide), e 7 (by omega)]; exact q9
  · rw [gIk _ _ _ (by decide), gIk _ _ _ (by decide), gIk _ _ _ (by decide), g0]; exact q0
  · rw [gIk _ _ _ (by decide), gIk _ _ _ (by decide), gIk _ _ _ (by decide), e 1 (by omega)]; exact q1
  · rw [gIk _ _ _ (by decide), gIk _ _ _ (by decide), gIk _ _ _ (by decide), e 2 (by omega)]; exact q2
  · rw [gIk _ _ _ (by decide), gIk _ _ _ (by decide), gIk _ _ _ (by decide), e 3 (by omega)]; exact q3
  · rw [gIk _ _ _ (by decide), gIk _ _ _ (by decide), gI, e 4 (by omega)]; rfl
  · rw [gIk _ _ _ (by decide), gI, e 5 (by omega)]; rfl
  · intro y
    rw [e 4 (by omega), if_pos rfl] at y
    exact absurd y (by decide)
  · rw [gIk _ _ _ (by decide), gIk _ _ _ (by decide), gIk _ _ _ (by decide), e 6 (by omega)]; exact q7
  · rw [gI, g8, if_pos (q8 ▸ z)]
  · rw [gIk _ _ _ (by decide), gIk _ _ _ (by decide), gIk _ _ _ (by decide), e 7 (by omega)]; exact q9
theorem k_waitAt {b r : Nat} {v : Int32} (hk : (hK h b).1 = 6) (q : RO h b f r) (e : ∀ k, k < 9 → g (48 + 9 * r + k) = if k = 4 then 1 else if k = 5 then v else f (48 + 9 * r + k)) : CV l x mX6_waitAt 0 0 0 [.ref b, .int v] h (fun h' => Fr1 b h h' ∧ RO h' b g r) := by
  obtain ⟨q0, q1, q2, q3, q4, q5, q6, q7, q8, q9⟩ := q
  have g0 : g (48 + 9 * r) = f (48 + 9 * r) := e 0 (by omega)
  refine Cm.of (by decide) (Nat.le_of_ble_eq_true rfl) (vX6_waitAt_0 ⟨hk, rfl, (((Fr1.refl b h).sI _ _).sI _ _).sI _ _, ?_, ?_, ?_, ?_, ?_, ?_, ?_, ?_, ?_, ?_⟩)
  · rw [gIk _ _ _ (by decide), gIk _ _ _ (by decide), gIk _ _ _ (by decide), g0]; exact q0
  · rw [gIk _ _ _ (by decide), gIk _ _ _ (by decide), gIk _ _ _ (by decide), e 1 (by omega)]; exact q1
  · rw [gIk _ _ _ (by decide), gIk _ _ _ (by decide), gIk _ _ _ (by decide), e 2 (by omega)]; exact q2
  · rw [gIk _ _ _ (by decide), gIk _ _ _ (by decide), gIk _ _ _ (by decide), e 3 (by omega)]; exact q3
  · rw [gIk _ _ _ (by decide), gIk _ _ _ (by decide), gI, e 4 (by omega)]; rfl
  · rw [gIk _ _ _ (by decide), gI, e 5 (by omega)]; rfl
  · intro _
    unfold wayR
    rw [gI, e 3 (by omega), e 5 (by omega), q3]
    rfl
  · rw [gIk _ _ _ (by decide), gIk _ _ _ (by decide), gIk _ _ _ (by decide), e 6 (by omega)]; exact q7
  · rw [gIk _ _ _ (by decide), gIk _ _ _ (by decide), gIk _ _ _ (by decide), e 8 (by omega)]; exact q8
  · rw [gIk _ _ _ (by decide), gIk _ _ _ (by decide), gIk _ _ _ (by decide), e 7 (by omega)]; exact q9
/-- riders of a Bank are on their way from one row to another: those before r have got there -/
def RM (h hr : PH) (o nr : Nat) (f g : Nat → Int32) (r : Nat) : Prop := FrB o h hr ∧ (∀ b, o + 1 ≤ b → b < o + 8 → Ac b h hr) ∧ (∀ k, k ≠ 12 → hI hr o k = hI h o k) ∧ hI hr o 12 = nI (cnt (mixR g f r) 3 nr) ∧ ∀ r', r' < nr → (r' < r → RO hr (o + 8 + r') g r') ∧ (r ≤ r' → RO hr (o + 8 + r') f r')
theorem RM.skip {hr : PH} {r : Nat} (M : RM h hr o nr f g r) (hn : r < nr) (e : ∀ k, k < 9 → g (48 + 9 * r + k) = f (48 + 9 * r + k)) : RM h hr o nr f g (r + 1) := by
  refine ⟨M.1, M.2.1, M.2.2.1, ?_, fun r' hr' => ⟨fun q => ?_, fun q => (M.2.2.2.2 r' hr').2 (by omega)⟩⟩
  · have := cnt_mix (f := f) (g := g) (v := 3) hn
    rw [e 4 (by omega)] at this
    rw [M.2.2.2.1]
    congr 1
    omega
  · by_cases z : r' = r
    · subst z
      exact ((M.2.2.2.2 r' hr').2 (Nat.le_refl _)).row e
    · exact (M.2.2.2.2 r' hr').1 (by omega)
theorem RM.put {hr h2 : PH} {r : Nat} (M : RM h hr o nr f g r) (hn : r < nr) (h4 : nr ≤ 24) (fb : FrB o hr h2) (ac : ∀ b, b ≠ o + 8 + r → b ≠ o → Ac b hr h2) (ro : RO h2 (o + 8 + r) g r) (ek : ∀ k, k ≠ 12 → hI h2 o k = hI hr o k) (e12 : hI h2 o 12 = nI (cnt (mixR g f (r + 1)) 3 nr)) : RM h h2 o nr f g (r + 1) := by
  refine ⟨M.1.trans fb, fun b h1 h2 => (M.2.1 b h1 h2).trans (ac b (by omega) (by omega)), fun k hk => (ek k hk).trans (M.2.2.1 k hk), e12, fun r' hr' => ⟨fun q => ?_, fun q => ?_⟩⟩
  · by_cases z : r' = r
    · rw [z]; exact ro
    · exact ((M.2.2.2.2 r' hr').1 (by omega)).ac (ac _ (by omega) (by omega))
  · exact ((M.2.2.2.2 r' hr').2 (by omega)).ac (ac _ (by omega) (by omega))
theorem RM.z (hf : hI h o 12 = nI (cnt f 3 nr)) (ri : ∀ r, r < nr → RO h (o + 8 + r) f r) : RM h h o nr f g 0 := by
  refine ⟨FrB.refl _ _, fun b _ _ => Ac.refl _ _, fun _ _ => rfl, ?_, fun r' hr' => ⟨fun q => absurd q (Nat.not_lt_zero _), fun _ => ri r' hr'⟩⟩
  rw [hf]
  congr 1
  exact fb_ct_cong fun r hr => by rw [mix_hi (by omega)]
theorem cnt_full : cnt (mixR g f nr) 3 nr = cnt g 3 nr := fb_ct_cong fun r hr => by rw [mix_lo hr (by omega)]
theorem k_settle {fl : Nat} {w : Int32} (S : BS h o) (hC : nc ≤ 4) (hR : nr ≤ 24) (hc : c < nc) (e1 : hI h o 1 = nI nc) (e2 : hI h o 2 = nI nr) (e7 : hI h o 7 = f 0) (e12 : hI h o 12 = nI (cnt f 3 nr)) (ri : ∀ r, r < nr → RO h (o + 8 + r) f r) (C : CO h (o + 4 + c) ct nr g c) (D : DR f g c nr (hI h (o + 4 + c) 13) (hI h (o + 4 + c) 14)) (dis : ∀ r, r < nr → bt (hI h (o + 4 + c) 13) r = true → bt (hI h (o + 4 + c) 14) r = false) (hct : CT ct nc) (hw : w = 0 ∨ w = 1 ∨ w = -1) (ef : g (16 + 8 * c) = nI fl) (hfl : fl < 12) (ew : g (16 + 8 * c + 1) = w) : CV l x mX1_settle 1 0 0 [.ref o, .int (nI c)] h (fun h' => FrB o h h' ∧ (∀ k, k ≠ 12 → hI h' o k = hI h o k) ∧ hI h' o 12 = nI (cnt g 3 nr) ∧ (∀ r, r < nr → RO h' (o + 8 + r) g r) ∧ ∀ c', c' < nc → (∀ k, hI h' (o + 4 + c') k = hI h (o + 4 + c') k) ∧ (∀ k, hF h' (o + 4 + c') k = hF h (o + 4 + c') k) ∧ hL h' (o + 4 + c') 11 = hL h (o + 4 + c') 11 ∧ ∀ i, i < 64 → (bL (hL h' (o + 4 + c') 12) i = true ↔ bL (hL h (o + 4 + c') 12) i = true ∧ ¬ ansd ct c fl w i)) := by
  have lc := S.lc c (by omega)
  have loop : ∀ (j r : Nat) (hr : PH), r + j = nr → RM h hr o nr f g r → Gm l x mX1_settle 1 9 [(0, .ref o), (1, .int (nI c)), (2, .ref (o + 4 + c)), (3, .int (nI r))] [] hr 0 0 (hN h) (fun v h' => v = none ∧ FrB o h h' ∧ (∀ k, k ≠ 12 → hI h' o k = hI h o k) ∧ hI h' o 12 = nI (cnt g 3 nr) ∧ (∀ r, r < nr → RO h' (o + 8 + r) g r) ∧ ∀ c', c' < nc → (∀ k, hI h' (o + 4 + c') k = hI h (o + 4 + c') k) ∧ (∀ k, hF h' (o + 4 + c') k = hF h (o + 4 + c') k) ∧ hL h' (o + 4 + c') 11 = hL h (o + 4 + c') 11 ∧ ∀ i, i < 64 → (bL (hL h' (o + 4 + c') 12) i = true ↔ bL (hL h (o + 4 + c') 12) i = true ∧ ¬ ansd ct c fl w i)) (fun _ _ => False) := by
    intro j
    induction j with
    | zero =>
      intro r hr hj M
      obtain rfl : r = nr := by omega
      have S1 := S.frb M.1
      have acc := M.2.1 (o + 4 + c) (by omega) (by omega)
      have C1 := C.ac acc
      refine vX1_settle_9 ⟨S1.k, fun _ => ⟨(S1.lc c (by omega)).2, _, k_callsAnswered C1.1 (hct c hc) hw ef hfl ew, ?_⟩, fun e => absurd ?_ e⟩
      · rintro v _ ⟨hv, rfl⟩
        refine ⟨S1.k, _, k_takeFromAll S1 ((M.2.2.1 1 (by omega)).trans e1) hC, ?_⟩
        intro h9 T
        refine ⟨rfl, M.1.trans (T.frb hC), fun k hk => (T.2.2.2.1 o k).trans (M.2.2.1 k hk), ?_, fun r' hr' => ?_, fun c' hc' => ⟨fun k => ?_, fun k => ?_, ?_, fun i hi => ?_⟩⟩
        · rw [T.2.2.2.1, M.2.2.2.1, cnt_full]
        · have q := (M.2.2.2.2 r' hr').1 hr'
          unfold RO at q ⊢
          rw [T.2.2.2.1, T.2.2.2.1, T.2.2.2.1, T.2.2.2.1, T.2.2.2.1, T.2.2.2.1, T.2.2.2.1, T.2.2.2.1, T.2.2.2.1, T.2.2.2.1]
          exact q
        · exact (T.2.2.2.1 _ k).trans ((M.2.1 _ (by omega) (by omega)).2 k).1
        · exact (T.2.2.2.2.1 _ k).trans ((M.2.1 _ (by omega) (by omega)).2 k).2.2.1
        · exact ((T.2.2.2.2.2 _ _).trans (if_neg (fun z => absurd z.1 (by decide)))).trans ((M.2.1 _ (by omega) (by omega)).2 11).2.1
        · rw [T.bit hc' hi, Bool.and_eq_true, ((M.2.1 (o + 4 + c') (by omega) (by omega)).2 12).2.1]
          refine and_congr Iff.rfl ?_
          rw [← hv i hi]
          cases bL v i <;> simp
      · rw [M.2.2.1 2 (by omega), e2]
        exact nI_le (Nat.le_refl _) (by omega)
    | succ j ih =>
      intro r hr hj M
      have S1 := S.frb M.1
      have acc := M.2.1 (o + 4 + c) (by omega) (by omega)
      have pr := S1.pr r (by omega)
      have ro := (M.2.2.2.2 r (by omega)).2 (Nat.le_refl _)
      have f13 : hI hr (o + 4 + c) 13 = hI h (o + 4 + c) 13 := (acc.2 13).1
      have f14 : hI hr (o + 4 + c) 14 = hI h (o + 4 + c) 14 := (acc.2 14).1
      have rr := D.rr r (by omega)
      have t7 : hI hr o 7 = f 0 := (M.2.2.1 7 (by omega)).trans e7
      have cm := cnt_mix (f := f) (g := g) (v := 3) (nr := nr) (r := r) (by omega)
      refine vX1_settle_9 ⟨S1.k, fun e => absurd e ?_, fun _ => ⟨(S1.lc c (by omega)).2, ?_⟩⟩
      · rw [M.2.2.1 2 (by omega), e2]
        exact nI_ge (by omega) (by omega)
      rw [f13, f14, nI_1]
      refine ⟨fun eL => ?_, fun eL => ?_⟩
      · rw [ius_bit (by omega)] at eL
        refine ⟨fun eJ => ?_, fun eJ => ?_⟩
        · rw [ius_bit (by omega)] at eJ
          rw [eL, eJ] at rr
          refine ih (r + 1) hr (by omega) (M.skip (by omega) fun k hk => (rr k hk).trans ?_)
          unfold rd
          split
          · rename_i z; rw [z]; rfl
          · split
            · rename_i z; rw [z]; rfl
            · split
              · rename_i z; rw [z]; rfl
              · split
                · rename_i z; rw [z]; rfl
                · rfl
        · have eJ' : bt (hI h (o + 4 + c) 14) r = true := by
            cases q : bt (hI h (o + 4 + c) 14) r with
            | true => rfl
            | false => exact absurd ((ius_bit (by omega)).mpr q) eJ
          rw [eL, eJ'] at rr
          refine ⟨o + 2, S1.p, by rw [S1.pk], ?_, o + 8 + r, ?_, pr.2, _, k_board (g := g) (v := nI c) (tm := hI hr o 7) pr.2 ro ?_, ?_⟩
          · rw [S1.pk]; exact vp_in_nI (by omega) (by decide)
          · rw [nI_clamp (by omega)]; exact pr.1
          · intro k hk
            rw [rr k hk, t7]
            unfold rd
            by_cases k4 : k = 4
            · rw [if_pos k4, if_pos k4]; rfl
            · rw [if_neg k4, if_neg k4]
              by_cases k5 : k = 5
              · rw [if_pos k5, if_pos k5]; rfl
              · rw [if_neg k5, if_neg k5]
                by_cases k7 : k = 7
                · subst k7; rfl
                · rw [if_neg k7]
                  rfl
          · rintro h2 ⟨fr2, ro2⟩
            refine ih (r + 1) h2 (by omega) (M.put (by omega) hR (fr2.frb (by omega) (by omega)) (fun b h1 _ => fr2.ac h1) ro2 (fun k _ => fr2.hI (by omega) k) ?_)
            rw [fr2.hI (by omega), M.2.2.2.1]
            congr 1
            have w1 := D.jj r (by omega) eJ'
            have w2 := rr 4 (by omega)
            have w3 : g (48 + 9 * r + 4) = 2 := w2
            rw [w1, w3, if_neg (by decide), if_neg (by decide)] at cm
            omega
      · have eL' : bt (hI h (o + 4 + c) 13) r = true := by
          cases q : bt (hI h (o + 4 + c) 13) r with
          | true => rfl
          | false => exact absurd ((ius_bit (by omega)).mpr q) eL
        have eJ := dis r (by omega) eL'
        rw [eL', eJ] at rr
        refine ⟨o + 2, S1.p, by rw [S1.pk], ?_, o + 8 + r, ?_, _, k_finish (g := g) rfl S1 (by omega) ro ?_, ?_⟩
        · rw [S1.pk]; exact vp_in_nI (by omega) (by decide)
        · rw [nI_clamp (by omega)]; exact pr.1
        · intro k hk
          rw [rr k hk, t7]
          unfold rd
          by_cases k4 : k = 4
          · rw [if_pos k4, if_pos k4]; rfl
          · rw [if_neg k4, if_neg k4]
            by_cases k5 : k = 5
            · rw [if_pos k5, if_pos k5]; rfl
            · rw [if_neg k5, if_neg k5]
              by_cases k7 : k = 7
              · rw [if_pos k7, if_pos k7]; rfl
              · rw [if_neg k7, if_neg k7]
                split
                · rename_i z; rw [z]; rfl
                · rfl
        · rintro h2 ⟨fb2, ac2, ro2, ek2, e122⟩
          have a14 : hI h2 (o + 4 + c) 14 = hI h (o + 4 + c) 14 := ((ac2 (o + 4 + c) (by omega) (by omega)).2 14).1.trans f14
          refine ⟨by rw [fb2.hK]; exact (S1.lc c (by omega)).2, ?_⟩
          rw [a14]
          refine ⟨fun _ => ?_, fun z => absurd ((ius_bit (by omega)).mpr eJ) z⟩
          refine ih (r + 1) h2 (by omega) (M.put (by omega) hR fb2 ac2 ro2 ek2 ?_)
          rw [e122, M.2.2.2.1, nI_1]
          congr 1
          have w1 : f (48 + 9 * r + 4) = 2 := by
            rcases D.ll r (by omega) eL' with q | q
            · rw [eJ] at q; cases q
            · exact q
          have w3 : g (48 + 9 * r + 4) = 3 := rr 4 (by omega)
          rw [w1, w3, if_neg (by decide), if_pos rfl] at cm
          omega
  refine Cm.of (by decide) (Nat.le_of_ble_eq_true rfl) (vX1_settle_0 ⟨S.k, o + 1, S.l, by rw [S.lk], ?_, o + 4 + c, ?_, loop nr 0 h (by omega) (RM.z e12 ri)⟩)
  · rw [S.lk]; exact vp_in_nI (by omega) (by decide)
  · rw [nI_clamp (by omega)]; exact lc.1
end Bank5
