/-! THE CLASS: a call is given -/
section Bank3
variable {l : Launch} {x : CX} {h h' : PH} {o a c nc nf nr m : Nat} {f f' g t ct : Nat → Int32}
theorem ArrI.same {A : Int32} (q : ArrI f A) (e : ∀ j, 7 ≤ j → j < 16 → f' j = f j) : ArrI f' A := by
  have em : mm f' = mm f := by unfold mm; rw [e 7 (by omega) (by omega)]
  intro i hi
  rw [em, q i hi]
  constructor
  · rintro ⟨z1, z2⟩
    exact ⟨z1, by rw [e _ (by omega) (by omega)]; exact z2⟩
  · rintro ⟨z1, z2⟩
    rw [e _ (by omega) (by omega)] at z2
    exact ⟨z1, z2⟩
theorem peak_same {k : Nat} (hk : k ≤ 8) (e : ∀ j, 7 ≤ j → j < 16 → f' j = f j) : peakC f' t k = peakC f t k := by
  unfold peakC
  rw [pk_eq' k hk (fun j h1 h2 => e j (by omega) h2)]
theorem cnt_same {v : Int32} (e : ∀ r, r < nr → f' (48 + 9 * r + 4) = f (48 + 9 * r + 4)) : cnt f' v nr = cnt f v nr := fb_ct_cong fun r hr => by rw [e r hr]
theorem RO.row {b r : Nat} (q : RO h b f r) (e : ∀ k, k < 9 → f' (48 + 9 * r + k) = f (48 + 9 * r + k)) : RO h b f' r := by
  have e0 : f' (48 + 9 * r) = f (48 + 9 * r) := e 0 (by omega)
  obtain ⟨q0, q1, q2, q3, q4, q5, q6, q7, q8, q9⟩ := q
  refine ⟨q0.trans e0.symm, q1.trans (e 1 (by omega)).symm, q2.trans (e 2 (by omega)).symm, q3.trans (e 3 (by omega)).symm, q4.trans (e 4 (by omega)).symm, q5.trans (e 5 (by omega)).symm, fun z => ?_, q7.trans (e 6 (by omega)).symm, q8.trans (e 8 (by omega)).symm, q9.trans (e 7 (by omega)).symm⟩
  rw [e 4 (by omega)] at z
  unfold wayR
  rw [e 3 (by omega), e 5 (by omega)]
  exact q6 z
/-- calls alone change, and the turn -/
theorem BR.calls (R : BR h o t ct nc nf nr f) (hC : nc ≤ 4) (hR : nr ≤ 24) (S : BS h' o) (e0 : ∀ k, k ≠ 9 → hI h' o k = hI h o k) (e9 : hI h' o 9 = f' 4) (eI : ∀ b, o + 4 ≤ b → b < o + 32 → ∀ k, hI h' b k = hI h b k) (eF : ∀ b, o + 4 ≤ b → b < o + 32 → ∀ k, hF h' b k = hF h b k) (e11 : ∀ c, c < nc → hL h' (o + 4 + c) 11 = hL h (o + 4 + c) 11) (ef : ∀ j, j < 264 → j ≠ 4 → f' j = f j) (ca : ∀ c, c < nc → ∀ i, i < 64 → (bL (hL h' (o + 4 + c) 12) i = true ↔ i < 48 ∧ f' (264 + i) = nI c + 1)) : BR h' o t ct nc nf nr f' := by
  have em : mm f' = mm f := by unfold mm; rw [ef 7 (by omega) (by omega)]
  refine ⟨S, (e0 0 (by omega)).trans R.fl, (e0 1 (by omega)).trans R.nc, (e0 2 (by omega)).trans R.nr, (e0 3 (by omega)).trans R.dw, ?_, ?_, (e0 6 (by omega)).trans R.pk, ?_, ?_, e9, ?_, ?_, ?_, fun c hc => ?_, fun r hr => ?_, ?_⟩
  · rw [e0 4 (by omega), ef 3 (by omega) (by omega)]; exact R.la
  · rw [e0 5 (by omega), ef 2 (by omega) (by omega)]; exact R.po
  · rw [e0 7 (by omega), ef 0 (by omega) (by omega)]; exact R.ti
  · rw [e0 8 (by omega), ef 1 (by omega) (by omega)]; exact R.bu
  · rw [e0 10 (by omega)]
    exact R.ar.same fun j h1 h2 => ef j (by omega) (by omega)
  · rw [e0 11 (by omega), em, peak_same (by omega) (fun j h1 h2 => ef j (by omega) (by omega))]; exact R.ru
  · rw [e0 12 (by omega), cnt_same (fun r hr => ef _ (by omega) (by omega))]; exact R.fi
  · obtain ⟨⟨q1, q2, q3, q4, q5, q6, q7, q8, q9, q10, q11, q12⟩, G⟩ := R.ca c hc
    refine ⟨?_, G.same (e11 c hc) (ef _ (by omega) (by omega)) (fun r hr => ef _ (by omega) (by omega))⟩
    unfold CB
    rw [eI (o + 4 + c) (by omega) (by omega), eI (o + 4 + c) (by omega) (by omega), eI (o + 4 + c) (by omega) (by omega), eI (o + 4 + c) (by omega) (by omega), eI (o + 4 + c) (by omega) (by omega), eI (o + 4 + c) (by omega) (by omega), eI (o + 4 + c) (by omega) (by omega), eI (o + 4 + c) (by omega) (by omega), eI (o + 4 + c) (by omega) (by omega), eF (o + 4 + c) (by omega) (by omega), ef (16 + 8 * c) (by omega) (by omega), ef (16 + 8 * c + 1) (by omega) (by omega), ef (16 + 8 * c + 2) (by omega) (by omega), ef (16 + 8 * c + 3) (by omega) (by omega), ef (16 + 8 * c + 4) (by omega) (by omega), ef (16 + 8 * c + 5) (by omega) (by omega), ef (16 + 8 * c + 6) (by omega) (by omega), ef (16 + 8 * c + 7) (by omega) (by omega)]
    exact ⟨(S.lc c (by omega)).2, q2, q3, q4, q5, q6, q7, q8, q9, q10, q11, ca c hc⟩
  · have q := (R.ri r hr).row (f' := f') fun k hk => ef _ (by omega) (by omega)
    unfold RO at q ⊢
    rw [eI (o + 8 + r) (by omega) (by omega), eI (o + 8 + r) (by omega) (by omega), eI (o + 8 + r) (by omega) (by omega), eI (o + 8 + r) (by omega) (by omega), eI (o + 8 + r) (by omega) (by omega), eI (o + 8 + r) (by omega) (by omega), eI (o + 8 + r) (by omega) (by omega), eI (o + 8 + r) (by omega) (by omega), eI (o + 8 + r) (by omega) (by omega), eI (o + 8 + r) (by omega) (by omega)]
    exact q
  · rw [ps_eq (fun c hc => eI (o + 4 + c) (by omega) (by omega) 8) nc (Nat.le_refl _), ef 5 (by omega) (by omega)]
    exact R.pa
theorem TF.s {n : Nat} {L : Int64} (T : TF o n L h h') (S : BS h o) : BS h' o := by
  have eK : ∀ b, hK h' b = hK h b := fun b => congrFun T.2.1 b
  have eR : ∀ b q, hR h' b q = hR h b q := fun b q => congrFun (congrFun T.2.2.1 b) q
  obtain ⟨q1, q2, q3, q4, q5, q6, q7, q8, q9⟩ := S
  refine ⟨?_, ?_, ?_, fun c hc => ?_, ?_, ?_, fun r hr => ?_, ?_, ?_⟩
  · rw [eK]; exact q1
  · rw [eR]; exact q2
  · rw [eK]; exact q3
  · rw [eR, eK]; exact q4 c hc
  · rw [eR]; exact q5
  · rw [eK]; exact q6
  · rw [eR, eK]; exact q7 r hr
  · rw [eR]; exact q8
  · rw [eK]; exact q9
theorem TF.frb {n : Nat} {L : Int64} (T : TF o n L h h') (hn : n ≤ 4) : FrB o h h' :=
  ⟨T.1, T.2.1, T.2.2.1, fun b hb k => ⟨T.2.2.2.1 b k, (T.2.2.2.2.2 b k).trans (if_neg (fun q => by omega)), T.2.2.2.2.1 b k⟩⟩
theorem TF.bit {L : Int64} (T : TF o nc L h h') {c i : Nat} (hc : c < nc) (hi : i < 64) : bL (hL h' (o + 4 + c) 12) i = (bL (hL h (o + 4 + c) 12) i && !bL L i) := by
  rw [T.2.2.2.2.2, if_pos ⟨rfl, by omega, by omega⟩, bL_clr _ _ hi]
theorem choA_p0 {fl s : Nat} {z : Int32} (h2 : f 2 = 0) : ∀ k, (choA t ct nr nf nc m fl s z f k).2 = 0
  | 0 => rfl
  | k + 1 => by
    have ih := choA_p0 (fl := fl) (s := s) (z := z) h2 k
    unfold choA
    split
    · exact ih
    · split
      · exact ih
      · split
        · exact ih
        · unfold pck prc
          dsimp only
          rw [ih, if_pos h2]
          split
          · rfl
          · split <;> rfl
theorem sel_le {a b u w : Int32} : (if a ≤ b then u else w) = (if b < a then w else u) := by
  by_cases e : b < a
  · rw [if_pos e, if_neg (Int32.not_le.mpr e)]
  · rw [if_neg e, if_pos (Int32.not_lt.mp e)]
theorem kix_of {k : Nat} (hk : k < 48) : kix (k / 4) (if k % 4 < 2 then 1 else -1) (k % 2 + 1) = 264 + k := by
  unfold kix
  by_cases e : k % 4 < 2
  · rw [if_pos e, if_neg (by decide)]; omega
  · rw [if_neg e, if_pos (by decide)]; omega
/-- the way of a call's number -/
def zk (k : Nat) : Int32 := if k % 4 < 2 then 1 else -1
theorem zk_pm (k : Nat) : zk k = 1 ∨ zk k = -1 := by
  unfold zk
  split
  · exact Or.inl rfl
  · exact Or.inr rfl
theorem k_give {k : Nat} (hT : Tok t nf) (R : BR h o t ct nc nf nr f) (I : Inv ct nc nf nr m f) (G : GI nc f) (hk : k < 4 * nf) : CV l x mX1_give 3 0 0 [.ref o, .int (nI k)] h (fun h' => FrB o h h' ∧ BR h' o t ct nc nf nr (givG t ct nr nf nc m (k / 4) (k % 2 + 1) (zk k) f)) := by
  have hC := I.hc
  have hR := I.hr
  have hF12 := I.hF
  have kx : kix (k / 4) (zk k) (k % 2 + 1) = 264 + k := kix_of (by omega)
  obtain ⟨k0, hk0, hk1⟩ := G.2.2
  generalize hp : (fun i => choA t ct nr nf nc m (k / 4) (k % 2 + 1) (zk k) f i) = p
  have pE : ∀ i, choA t ct nr nf nc m (k / 4) (k % 2 + 1) (zk k) f i = p i := fun i => congrFun hp i
  have loop : ∀ (j i : Nat) (hi : PH), i + j = nc → Fr1 (o + 3) h hi → Gm l x mX1_give 3 20 [(0, .ref o), (1, .int (nI k)), (2, .int (nI (k % 2 + 1))), (3, .int (p i).1), (4, .int (p i).2), (5, .int (nI i))] [] hi 0 0 (hN h) (fun v h' => v = none ∧ FrB o h h' ∧ BR h' o t ct nc nf nr (givG t ct nr nf nc m (k / 4) (k % 2 + 1) (zk k) f)) (fun _ _ => False) := by
    intro j
    induction j with
    | zero =>
      intro i hi hj fr
      obtain rfl : i = nc := by omega
      have R1 := R.tr hC hR fr
      have S := R1.s
      refine vX1_give_20 ⟨S.k, fun _ => ⟨_, k_takeFromAll S R1.nc hC, ?_⟩, fun e => absurd ?_ e⟩
      · intro h5 T
        have S5 := T.s S
        have fb : FrB o h h5 := (fr.frb (by omega) (by omega)).trans (T.frb hC)
        have cE : choC t ct nr nf i m (k / 4) (k % 2 + 1) (zk k) f = (p i).1 := congrArg Prod.fst (pE i)
        have ok := choA_ok (t := t) (ct := ct) (nr := nr) (nf := nf) (nc := i) (m := m) (f := f) (fl := k / 4) (s := k % 2 + 1) (z := zk k) i (Nat.le_refl _)
        rw [pE] at ok
        have bit5 : ∀ c, c < i → ∀ q, q < 64 → (bL (hL h5 (o + 4 + c) 12) q = true ↔ (q < 48 ∧ f (264 + q) = nI c + 1) ∧ q ≠ k) := by
          intro c hc q hq
          rw [T.bit hc hq, bL_one k (by omega) hq, Bool.and_eq_true, (R1.ca c hc).1.ca q hq]
          constructor
          · rintro ⟨z1, z2⟩
            refine ⟨z1, fun e => ?_⟩
            rw [decide_eq_true e] at z2
            cases z2
          · rintro ⟨z1, z2⟩
            exact ⟨z1, by rw [decide_eq_false z2]; rfl⟩
        unfold givG
        rw [cE, kx]
        refine ⟨fun e => ⟨rfl, fb, ?_⟩, fun e => ?_⟩
        · rw [if_pos e, e]
          refine R1.calls hC hR S5 (fun q _ => T.2.2.2.1 o q) ?_ (fun b _ _ q => T.2.2.2.1 b q) (fun b _ _ q => T.2.2.2.2.1 b q) (fun c hc => (T.2.2.2.2.2 _ _).trans (if_neg (fun z => absurd z.1 (by decide)))) (fun j hj _ => up_ne (by omega)) ?_
          · rw [T.2.2.2.1, up_ne (by omega)]; exact R1.tu
          · intro c hc q hq
            rw [bit5 c hc q hq]
            by_cases z : q = k
            · rw [z, up_eq]
              exact ⟨fun y => absurd rfl y.2, fun y => absurd y.2 (nz1 c (by omega))⟩
            · rw [up_ne (by omega)]
              exact ⟨fun y => y.1, fun y => ⟨y, z⟩⟩
        · rcases ok with z | ⟨cb, c1, c2, c3⟩
          · exact absurd z e
          · have lc := S5.lc cb (by omega)
            refine ⟨S5.k, o + 1, S5.l, by rw [S5.lk], ?_, o + 4 + cb, ?_, lc.2, rfl, ?_, ?_⟩
            · rw [S5.lk, c2]; exact vp_in_nI (by omega) (by decide)
            · rw [c2, nI_clamp (by omega)]; exact lc.1
            · have f1 : Fr1 (o + 4 + cb) h5 (sL h5 (o + 4 + cb) 12 (hL h5 (o + 4 + cb) 12 ||| lsh 1 (nI k))) := (Fr1.refl _ _).sL _ _
              have f2 : Fr1 o (sL h5 (o + 4 + cb) 12 (hL h5 (o + 4 + cb) 12 ||| lsh 1 (nI k))) (sI (sL h5 (o + 4 + cb) 12 (hL h5 (o + 4 + cb) 12 ||| lsh 1 (nI k))) o 9 (if hI h5 o 5 = 0 then (p i).1 else hI h5 o 9)) := (Fr1.refl _ _).sI _ _
              exact (fb.trans (f1.frb (by omega) (by omega))).trans (f2.frb (by omega) (by omega))
            · rw [if_neg e]
              have e5 : hI h5 o 5 = f 2 := (T.2.2.2.1 o 5).trans R1.po
              have key : ∀ (u : Nat → Int32), (∀ j, j < 264 → j ≠ 4 → u j = f j) → (∀ q, u (264 + q) = up f (264 + k) ((p i).1 + 1) (264 + q)) → u 4 = (if hI h5 o 5 = 0 then (p i).1 else hI h5 o 9) → BR (sI (sL h5 (o + 4 + cb) 12 (hL h5 (o + 4 + cb) 12 ||| lsh 1 (nI k))) o 9 (if hI h5 o 5 = 0 then (p i).1 else hI h5 o 9)) o t ct i nf nr u := by
                intro u u1 u2 u3
                have frS : BS (sI (sL h5 (o + 4 + cb) 12 (hL h5 (o + 4 + cb) 12 ||| lsh 1 (nI k))) o 9 (if hI h5 o 5 = 0 then (p i).1 else hI h5 o 9)) o := (S5.fr ((Fr1.refl _ _).sL _ _)).fr ((Fr1.refl _ _).sI _ _)
                refine R1.calls hC hR frS (fun q hq => ?_) ?_ (fun b hb _ q => ?_) (fun b _ _ q => T.2.2.2.2.1 b q) (fun c hc => ?_) u1 ?_
                · rw [gIk _ _ _ hq]; exact T.2.2.2.1 o q
                · rw [gI]; exact u3.symm
                · rw [gIa _ _ _ _ (by omega)]; exact T.2.2.2.1 b q
                · rw [hL_sI]
                  by_cases z : c = cb
                  · rw [z, gLk _ _ _ (by decide)]
                    exact (T.2.2.2.2.2 _ _).trans (if_neg (fun y => absurd y.1 (by decide)))
                  · rw [gLa _ _ _ _ (by omega)]
                    exact (T.2.2.2.2.2 _ _).trans (if_neg (fun y => absurd y.1 (by decide)))
                · intro c hc q hq
                  rw [hL_sI, u2, c2]
                  by_cases z : c = cb
                  · subst z
                    rw [gL, bL_set _ k (by omega) hq]
                    by_cases y : q = k
                    · rw [if_pos y, y, up_eq]
                      exact ⟨fun _ => ⟨by omega, rfl⟩, fun _ => rfl⟩
                    · rw [if_neg y, up_ne (by omega), bit5 c hc q hq]
                      exact ⟨fun w => w.1, fun w => ⟨w, y⟩⟩
                  · rw [gLa _ _ _ _ (by omega), bit5 c hc q hq]
                    by_cases y : q = k
                    · rw [y, up_eq]
                      refine ⟨fun w => absurd rfl w.2, fun w => ?_⟩
                      have := w.2
                      rw [nI_1, nI_1, nI_eq (by omega) (by omega)] at this
                      omega
                    · rw [up_ne (by omega)]
                      exact ⟨fun w => w.1, fun w => ⟨w, y⟩⟩
              by_cases z : f 2 = 0
              · rw [if_pos z]
                refine key _ (fun j hj h4 => ?_) (fun q => ?_) ?_
                · rw [up_ne h4, up_ne (by omega)]
                · rw [up_ne (by omega)]
                · rw [up_eq, e5, if_pos z]
              · rw [if_neg z]
                refine key _ (fun j hj h4 => ?_) (fun q => rfl) ?_
                · rw [up_ne (by omega)]
                · rw [up_ne (by omega), e5, if_neg z, T.2.2.2.1]
                  exact R1.tu.symm
      · rw [R1.nc]
        exact nI_le (Nat.le_refl _) (by omega)
    | succ j ih =>
      intro i hi hj fr
      have R1 := R.tr hC hR fr
      have S := R1.s
      have hcx := cix_lt (f := f) (nc := nc) (k := i) (by omega)
      have lc := S.lc (cixC f nc i) (by omega)
      have C := (R1.ca (cixC f nc i) hcx).1
      have next : ∀ (h2 : PH) (q : Int32 × Int32), Fr1 (o + 3) h h2 → p (i + 1) = q → Gm l x mX1_give 3 20 [(0, .ref o), (1, .int (nI k)), (2, .int (nI (k % 2 + 1))), (3, .int q.1), (4, .int q.2), (5, .int (nI i + 1))] [] h2 0 0 (hN h) (fun v h' => v = none ∧ FrB o h h' ∧ BR h' o t ct nc nf nr (givG t ct nr nf nc m (k / 4) (k % 2 + 1) (zk k) f)) (fun _ _ => False) := by
        intro h2 q f2 hq
        rw [nI_1, ← hq]
        exact ih (i + 1) h2 (by omega) f2
      have pS : p (i + 1) = if f (16 + 8 * cixC f nc i + 4) = 0 then p i else if takesC ct (cixC f nc i) (nI (k % 2 + 1)) = 0 then p i else if f 2 = 0 ∧ ¬ (p i).1 = -1 then p i else pck (p i) (nI (cixC f nc i)) (prc t ct nr nf m (cixC f nc i) (k / 4) (k % 2 + 1) (zk k) f) := by
        rw [← pE (i + 1), ← pE i]; rfl
      have at55 : Gm l x mX1_give 3 55 [(0, .ref o), (1, .int (nI k)), (2, .int (nI (k % 2 + 1))), (3, .int (p i).1), (4, .int (p i).2), (5, .int (nI i))] [.int (nI (cixC f nc i))] hi 0 0 (hN h) (fun v h' => v = none ∧ FrB o h h' ∧ BR h' o t ct nc nf nr (givG t ct nr nf nc m (k / 4) (k % 2 + 1) (zk k) f)) (fun _ _ => False) := by
        refine vX1_give_55 ⟨S.k, o + 1, S.l, by rw [S.lk], ?_, o + 4 + cixC f nc i, ?_, lc.2, fun e1 => next hi _ fr ?_, fun e1 => ⟨_, Cm.of (by decide) (Nat.le_of_ble_eq_true rfl) (vX2_takes_0 (Q := fun v h' => ∃ r, v = some (.int r) ∧ r = takesC ct (cixC f nc i) (nI (k % 2 + 1)) ∧ h' = hi) ⟨C.ck, ?_, _, rfl, takes_iff C.so, rfl⟩), ?_⟩⟩
        · rw [S.lk]; exact vp_in_nI (by omega) (by decide)
        · rw [nI_clamp (by omega)]; exact lc.1
        · rw [C.inn] at e1
          rw [pS, if_pos e1]
        · rw [takes_iff C.so]
          unfold takesC
          split
          · exact Or.inr rfl
          · exact Or.inl rfl
        · rintro _ _ ⟨rfl, rfl⟩
          rw [C.inn] at e1
          rw [R1.po]
          refine ⟨fun e2 => ⟨S.k, ?_⟩, fun e2 => next _ _ fr (by rw [pS, if_neg e1, if_pos e2])⟩
          rw [if_neg e1, if_neg e2] at pS
          have fin : ∀ (v : Int32), prc t ct nr nf m (cixC f nc i) (k / 4) (k % 2 + 1) (zk k) f = v → p (i + 1) = (if (p i).1 = (-1) then nI (cixC f nc i) else (if (p i).2 ≤ v then (p i).1 else nI (cixC f nc i) : Int32), if (p i).1 = (-1) then v else (if (p i).2 ≤ v then (p i).2 else v : Int32)) := by
            intro v hv
            rw [pS, sel_le, sel_le, ← hv]
            by_cases z : f 2 = 0 ∧ ¬ (p i).1 = -1
            · rw [if_pos z, if_neg z.2, if_neg z.2]
              have p2 : (p i).2 = 0 := by rw [← pE i]; exact choA_p0 z.1 i
              have v0 : prc t ct nr nf m (cixC f nc i) (k / 4) (k % 2 + 1) (zk k) f = 0 := if_pos z.1
              rw [v0, p2, if_neg (by decide), if_neg (by decide)]
              exact Prod.ext rfl p2
            · rw [if_neg z]
              rfl
          refine ⟨fun e3 => ⟨fun e4 => next _ (_, _) fr (fin 0 ?_), fun e4 => ⟨_, k_costOf hT R1 I hcx (by omega) (by omega) (by omega) (zk_pm k) kx e2, ?_⟩⟩, fun e3 => ⟨lc.2, fun y hy => ?_⟩⟩
          · rcases G.2.1 with z | z | z
            · exact if_pos z
            · exact absurd z e3
            · exact absurd z e4
          · rintro _ h2 ⟨rfl, f2⟩
            refine next h2 (_, _) (fr.trans f2) (fin _ ?_)
            unfold prc
            rw [if_neg (by rw [e4]; decide), if_neg e3]
          · have e4 : nI k / 4 = nI (k / 4) := by
              show nI k / nI 4 = _
              rw [pk_div (by omega) (by omega) (by omega)]
            rw [C.fl, e4] at hy
            refine next _ (_, _) fr (fin y ?_)
            unfold prc absI
            rw [if_neg (by rw [e3]; decide), if_pos e3, hy]
      refine vX1_give_20 ⟨S.k, fun e => absurd e ?_, fun _ => ?_⟩
      · rw [R1.nc]
        exact nI_ge (by omega) (by omega)
      · rw [R1.po, R1.nc, R1.tu]
        refine ⟨fun e => ?_, fun e => ⟨nI_ne0 (by omega) (by omega), ?_⟩⟩
        · have ex : cixC f nc i = i := if_neg e
          rw [ex] at at55
          exact at55
        · have ex : cixC f nc i = (k0 + i) % nc := (if_pos e).trans (by rw [hk0, nI_clamp (by omega)])
          rw [ex] at at55
          rw [hk0, nI_add, pk_rem (by omega) (by omega) (by omega)]
          exact at55
  have h0 := loop nc 0 h (by omega) (Fr1.refl _ _)
  rw [← pE 0] at h0
  refine Cm.of (by decide) (Nat.le_of_ble_eq_true rfl) (vX1_give_0 ?_)
  rw [an1 k (by omega)]
  exact h0
end Bank3
