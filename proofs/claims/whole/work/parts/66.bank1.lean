/-! THE CLASS: a Bank stands for a row -/
/-- how many riders are in a state -/
def cnt (f : Nat → Int32) (v : Int32) (nr : Nat) : Nat := fb_ct (fun r => decide (f (48 + 9 * r + 4) = v)) nr
/-- the last arrivals, as bits -/
def ArrI (f : Nat → Int32) (A : Int32) : Prop := ∀ i, i < 32 → (bt A i = true ↔ i < min 8 (mm f) ∧ f (8 + (min 8 (mm f) - 1 - i)) = 0)
def ps (h : PH) (o : Nat) : Nat → Int32
  | 0 => 0
  | c + 1 => ps h o c + hI h (o + 4 + c) 8
def BR (h : PH) (o : Nat) (t ct : Nat → Int32) (nc nf nr : Nat) (f : Nat → Int32) : Prop :=
  (BS h o) ∧
  (hI h o 0 = nI nf) ∧
  (hI h o 1 = nI nc) ∧
  (hI h o 2 = nI nr) ∧
  (hI h o 3 = tellsT t 3) ∧
  (hI h o 4 = f 3) ∧
  (hI h o 5 = f 2) ∧
  (hI h o 6 = tellsT t 6) ∧
  (hI h o 7 = f 0) ∧
  (hI h o 8 = f 1) ∧
  (hI h o 9 = f 4) ∧
  (ArrI f (hI h o 10)) ∧
  (hI h o 11 = peakC f t (min 8 (mm f))) ∧
  (hI h o 12 = nI (cnt f 3 nr)) ∧
  (∀ c, c < nc → CO h (o + 4 + c) ct nr f c) ∧
  (∀ r, r < nr → RO h (o + 8 + r) f r) ∧
  (ps h o nc = f 5)
theorem BR.s {h : PH} {o : Nat} {t ct : Nat → Int32} {nc nf nr : Nat} {f : Nat → Int32} (q : BR h o t ct nc nf nr f) : BS h o := q.1
theorem BR.fl {h : PH} {o : Nat} {t ct : Nat → Int32} {nc nf nr : Nat} {f : Nat → Int32} (q : BR h o t ct nc nf nr f) : hI h o 0 = nI nf := q.2.1
theorem BR.nc {h : PH} {o : Nat} {t ct : Nat → Int32} {nc nf nr : Nat} {f : Nat → Int32} (q : BR h o t ct nc nf nr f) : hI h o 1 = nI nc := q.2.2.1
theorem BR.nr {h : PH} {o : Nat} {t ct : Nat → Int32} {nc nf nr : Nat} {f : Nat → Int32} (q : BR h o t ct nc nf nr f) : hI h o 2 = nI nr := q.2.2.2.1
theorem BR.dw {h : PH} {o : Nat} {t ct : Nat → Int32} {nc nf nr : Nat} {f : Nat → Int32} (q : BR h o t ct nc nf nr f) : hI h o 3 = tellsT t 3 := q.2.2.2.2.1
theorem BR.la {h : PH} {o : Nat} {t ct : Nat → Int32} {nc nf nr : Nat} {f : Nat → Int32} (q : BR h o t ct nc nf nr f) : hI h o 4 = f 3 := q.2.2.2.2.2.1
theorem BR.po {h : PH} {o : Nat} {t ct : Nat → Int32} {nc nf nr : Nat} {f : Nat → Int32} (q : BR h o t ct nc nf nr f) : hI h o 5 = f 2 := q.2.2.2.2.2.2.1
theorem BR.pk {h : PH} {o : Nat} {t ct : Nat → Int32} {nc nf nr : Nat} {f : Nat → Int32} (q : BR h o t ct nc nf nr f) : hI h o 6 = tellsT t 6 := q.2.2.2.2.2.2.2.1
theorem BR.ti {h : PH} {o : Nat} {t ct : Nat → Int32} {nc nf nr : Nat} {f : Nat → Int32} (q : BR h o t ct nc nf nr f) : hI h o 7 = f 0 := q.2.2.2.2.2.2.2.2.1
theorem BR.bu {h : PH} {o : Nat} {t ct : Nat → Int32} {nc nf nr : Nat} {f : Nat → Int32} (q : BR h o t ct nc nf nr f) : hI h o 8 = f 1 := q.2.2.2.2.2.2.2.2.2.1
theorem BR.tu {h : PH} {o : Nat} {t ct : Nat → Int32} {nc nf nr : Nat} {f : Nat → Int32} (q : BR h o t ct nc nf nr f) : hI h o 9 = f 4 := q.2.2.2.2.2.2.2.2.2.2.1
theorem BR.ar {h : PH} {o : Nat} {t ct : Nat → Int32} {nc nf nr : Nat} {f : Nat → Int32} (q : BR h o t ct nc nf nr f) : ArrI f (hI h o 10) := q.2.2.2.2.2.2.2.2.2.2.2.1
theorem BR.ru {h : PH} {o : Nat} {t ct : Nat → Int32} {nc nf nr : Nat} {f : Nat → Int32} (q : BR h o t ct nc nf nr f) : hI h o 11 = peakC f t (min 8 (mm f)) := q.2.2.2.2.2.2.2.2.2.2.2.2.1
theorem BR.fi {h : PH} {o : Nat} {t ct : Nat → Int32} {nc nf nr : Nat} {f : Nat → Int32} (q : BR h o t ct nc nf nr f) : hI h o 12 = nI (cnt f 3 nr) := q.2.2.2.2.2.2.2.2.2.2.2.2.2.1
theorem BR.ca {h : PH} {o : Nat} {t ct : Nat → Int32} {nc nf nr : Nat} {f : Nat → Int32} (q : BR h o t ct nc nf nr f) : ∀ c, c < nc → CO h (o + 4 + c) ct nr f c := q.2.2.2.2.2.2.2.2.2.2.2.2.2.2.1
theorem BR.ri {h : PH} {o : Nat} {t ct : Nat → Int32} {nc nf nr : Nat} {f : Nat → Int32} (q : BR h o t ct nc nf nr f) : ∀ r, r < nr → RO h (o + 8 + r) f r := q.2.2.2.2.2.2.2.2.2.2.2.2.2.2.2.1
theorem BR.pa {h : PH} {o : Nat} {t ct : Nat → Int32} {nc nf nr : Nat} {f : Nat → Int32} (q : BR h o t ct nc nf nr f) : ps h o nc = f 5 := q.2.2.2.2.2.2.2.2.2.2.2.2.2.2.2.2
/-- a cell that stays as it was -/
def Ac (b : Nat) (h h' : PH) : Prop := hK h' b = hK h b ∧ ∀ k, hI h' b k = hI h b k ∧ hL h' b k = hL h b k ∧ hF h' b k = hF h b k ∧ hR h' b k = hR h b k
theorem Fr1.ac {a b : Nat} {h h' : PH} (p : Fr1 a h h') (hb : b ≠ a) : Ac b h h' := ⟨p.hK b, fun k => ⟨p.hI hb k, p.hL hb k, p.hF hb k, p.hR b k⟩⟩
theorem Ac.refl (b : Nat) (h : PH) : Ac b h h := ⟨rfl, fun _ => ⟨rfl, rfl, rfl, rfl⟩⟩
theorem Ac.trans {b : Nat} {h1 h2 h3 : PH} (p : Ac b h1 h2) (q : Ac b h2 h3) : Ac b h1 h3 := ⟨q.1.trans p.1, fun k => ⟨(q.2 k).1.trans (p.2 k).1, (q.2 k).2.1.trans (p.2 k).2.1, (q.2 k).2.2.1.trans (p.2 k).2.2.1, (q.2 k).2.2.2.trans (p.2 k).2.2.2⟩⟩
section BankAg
variable {h h' : PH} {o a b c nc nf nr m r : Nat} {f g t ct : Nat → Int32}
theorem RO.ac (q : RO h b f r) (p : Ac b h h') : RO h' b f r := by
  unfold RO at q ⊢
  rw [(p.2 0).1, (p.2 1).1, (p.2 2).1, (p.2 3).1, (p.2 4).1, (p.2 5).1, (p.2 6).1, (p.2 7).1, (p.2 8).1, (p.2 9).1]
  exact q
theorem CO.ac (q : CO h b ct nr g c) (p : Ac b h h') : CO h' b ct nr g c := by
  unfold CO CB CG at q ⊢
  rw [p.1, (p.2 0).1, (p.2 1).1, (p.2 2).1, (p.2 3).1, (p.2 4).1, (p.2 5).1, (p.2 6).1, (p.2 7).2.2.1, (p.2 9).1, (p.2 10).1, (p.2 11).2.1, (p.2 12).2.1]
  exact q
theorem BS.ac (q : BS h o) (p : ∀ b, o ≤ b → b < o + 32 → Ac b h h') : BS h' o := by
  obtain ⟨q1, q2, q3, q4, q5, q6, q7, q8, q9⟩ := q
  have p0 := p o (by omega) (by omega)
  have p1 := p (o + 1) (by omega) (by omega)
  have p2 := p (o + 2) (by omega) (by omega)
  have p3 := p (o + 3) (by omega) (by omega)
  refine ⟨?_, ?_, ?_, fun c hc => ?_, ?_, ?_, fun r hr => ?_, ?_, ?_⟩
  · rw [p0.1]; exact q1
  · rw [(p0.2 13).2.2.2]; exact q2
  · rw [p1.1]; exact q3
  · rw [(p1.2 c).2.2.2, (p (o + 4 + c) (by omega) (by omega)).1]; exact q4 c hc
  · rw [(p0.2 14).2.2.2]; exact q5
  · rw [p2.1]; exact q6
  · rw [(p2.2 r).2.2.2, (p (o + 8 + r) (by omega) (by omega)).1]; exact q7 r hr
  · rw [(p0.2 15).2.2.2]; exact q8
  · rw [p3.1]; exact q9
theorem ps_eq (e : ∀ c, c < nc → hI h' (o + 4 + c) 8 = hI h (o + 4 + c) 8) : ∀ k, k ≤ nc → ps h' o k = ps h o k
  | 0, _ => rfl
  | k + 1, hk => by
    unfold ps
    rw [ps_eq e k (by omega), e k (by omega)]
/-- a Bank none of whose cells changes, the trial left out -/
theorem BR.ac (q : BR h o t ct nc nf nr f) (hc : nc ≤ 4) (hr : nr ≤ 24) (sh : BS h' o) (p : ∀ b, o ≤ b → b < o + 32 → b ≠ o + 3 → Ac b h h') : BR h' o t ct nc nf nr f := by
  obtain ⟨q0, q1, q2, q3, q4, q5, q6, q7, q8, q9, q10, q11, q12, q13, q14, q15, q16⟩ := q
  have p0 := p o (by omega) (by omega) (by omega)
  refine ⟨sh, ?_, ?_, ?_, ?_, ?_, ?_, ?_, ?_, ?_, ?_, ?_, ?_, ?_, fun c hc' => (q14 c hc').ac (p _ (by omega) (by omega) (by omega)), fun r hr' => (q15 r hr').ac (p _ (by omega) (by omega) (by omega)), ?_⟩
  · rw [(p0.2 0).1]; exact q1
  · rw [(p0.2 1).1]; exact q2
  · rw [(p0.2 2).1]; exact q3
  · rw [(p0.2 3).1]; exact q4
  · rw [(p0.2 4).1]; exact q5
  · rw [(p0.2 5).1]; exact q6
  · rw [(p0.2 6).1]; exact q7
  · rw [(p0.2 7).1]; exact q8
  · rw [(p0.2 8).1]; exact q9
  · rw [(p0.2 9).1]; exact q10
  · rw [(p0.2 10).1]; exact q11
  · rw [(p0.2 11).1]; exact q12
  · rw [(p0.2 12).1]; exact q13
  · rw [ps_eq (fun c hc' => ((p (o + 4 + c) (by omega) (by omega) (by omega)).2 8).1) nc (Nat.le_refl _)]; exact q16
theorem BR.tr (q : BR h o t ct nc nf nr f) (hc : nc ≤ 4) (hr : nr ≤ 24) (p : Fr1 (o + 3) h h') : BR h' o t ct nc nf nr f :=
  q.ac hc hr (q.s.fr p) fun b _ _ h3 => p.ac h3
theorem BR.po' (q : BR h o t ct nc nf nr f) : PO h o nr f := ⟨q.s, q.nr, q.ri⟩
end BankAg
/-- h' is h but for a Bank's cells -/
def FrB (o : Nat) (h h' : PH) : Prop := h'.1 = h.1 ∧ h'.2.1 = h.2.1 ∧ h'.2.2.2.2.2 = h.2.2.2.2.2 ∧ ∀ b, (b < o ∨ o + 32 ≤ b) → ∀ k, hI h' b k = hI h b k ∧ hL h' b k = hL h b k ∧ hF h' b k = hF h b k
theorem FrB.refl (o : Nat) (h : PH) : FrB o h h := ⟨rfl, rfl, rfl, fun _ _ _ => ⟨rfl, rfl, rfl⟩⟩
theorem FrB.trans {o : Nat} {h1 h2 h3 : PH} (p : FrB o h1 h2) (q : FrB o h2 h3) : FrB o h1 h3 := ⟨q.1.trans p.1, q.2.1.trans p.2.1, q.2.2.1.trans p.2.2.1, fun b hb k => ⟨(q.2.2.2 b hb k).1.trans (p.2.2.2 b hb k).1, (q.2.2.2 b hb k).2.1.trans (p.2.2.2 b hb k).2.1, (q.2.2.2 b hb k).2.2.trans (p.2.2.2 b hb k).2.2⟩⟩
theorem Fr1.frb {a o : Nat} {h h' : PH} (p : Fr1 a h h') (h1 : o ≤ a) (h2 : a < o + 32) : FrB o h h' := ⟨p.1, p.2.1, p.2.2.1, fun b hb k => p.2.2.2 b (by omega) k⟩
theorem FrB.hK {o : Nat} {h h' : PH} (p : FrB o h h') (b : Nat) : hK h' b = hK h b := congrFun p.2.1 b
theorem FrB.hR {o : Nat} {h h' : PH} (p : FrB o h h') (b k : Nat) : hR h' b k = hR h b k := congrFun (congrFun p.2.2.1 b) k
theorem FrB.ac {o b : Nat} {h h' : PH} (p : FrB o h h') (hb : b < o ∨ o + 32 ≤ b) : Ac b h h' := ⟨p.hK b, fun k => ⟨(p.2.2.2 b hb k).1, (p.2.2.2 b hb k).2.1, (p.2.2.2 b hb k).2.2, p.hR b k⟩⟩
theorem BS.frb {o o' : Nat} {h h' : PH} (q : BS h o) (p : FrB o' h h') : BS h' o := by
  obtain ⟨q1, q2, q3, q4, q5, q6, q7, q8, q9⟩ := q
  refine ⟨?_, ?_, ?_, fun c hc => ?_, ?_, ?_, fun r hr => ?_, ?_, ?_⟩
  · rw [p.hK]; exact q1
  · rw [p.hR]; exact q2
  · rw [p.hK]; exact q3
  · rw [p.hR, p.hK]; exact q4 c hc
  · rw [p.hR]; exact q5
  · rw [p.hK]; exact q6
  · rw [p.hR, p.hK]; exact q7 r hr
  · rw [p.hR]; exact q8
  · rw [p.hK]; exact q9
section Bank1
variable {l : Launch} {x : CX} {h : PH} {o a c nc nf nr m : Nat} {f g t ct : Nat → Int32}
theorem k_restOf {v : Int32} (hk : (hK h o).1 = 1) (ha : (hK h a).1 = 2) (hr : hI h o 11 = peakC g t (min 8 m)) (hm : hI h a 1 = g (16 + 8 * c + 6)) (hv : v = parksC g t (min 8 m) c) : CI l x mX1_restOf 0 0 0 [.ref o, .ref a] h (fun r h' => r = v ∧ h' = h) := by
  subst hv
  refine Cm.of (by decide) (Nat.le_of_ble_eq_true rfl) (vX1_restOf_0 ⟨hk, ?_⟩)
  rw [hr, hm]
  unfold parksC
  exact ⟨fun e => ⟨ha, _, rfl, (if_pos e).symm, rfl⟩, fun e => ⟨_, rfl, (if_neg e).symm, rfl⟩⟩
theorem CO.copy {a b : Nat} {h' : PH} (C : CO h b ct nr g c) (eK : (hK h' a).1 = 2) (e0 : hI h' a 0 = hI h b 0) (e1 : hI h' a 1 = hI h b 1) (e2 : hI h' a 2 = hI h b 2) (e3 : hI h' a 3 = hI h b 3) (e4 : hI h' a 4 = hI h b 4) (e5 : hI h' a 5 = hI h b 5) (e6 : hI h' a 6 = hI h b 6) (e7 : hF h' a 7 = hF h b 7) (e9 : hI h' a 9 = hI h b 9) (e10 : hI h' a 10 = hI h b 10) (e11 : hL h' a 11 = hL h b 11) (e12 : hL h' a 12 = hL h b 12) : CO h' a ct nr g c := by
  obtain ⟨⟨q1, q2, q3, q4, q5, q6, q7, q8, q9, q10, q11, q12⟩, G⟩ := C
  refine ⟨⟨eK, e0.trans q2, e1.trans q3, e2.trans q4, e3.trans q5, e4.trans q6, e5.trans q7, e6.trans q8, e7.trans q9, e9.trans q10, e10.trans q11, ?_⟩, ?_⟩
  · rw [e12]; exact q12
  · intro i hi hz
    rw [e11]; exact G i hi hz
theorem k_copyCar {a b : Nat} (C : CO h b ct nr g c) (hi : g (16 + 8 * c + 4) = 0 ∨ g (16 + 8 * c + 4) = 1) (ha : (hK h a).1 = 2) : CV l x mX2_copyFrom 0 0 0 [.ref a, .ref b] h (fun h' => Fr1 a h h' ∧ CO h' a ct nr g c ∧ hI h' a 8 = hI h b 8 ∧ hI h' a 13 = 0 ∧ hI h' a 14 = 0) := by
  have st : ∀ h' : PH, Fr1 a h h' → hI h' a 0 = hI h b 0 → hI h' a 1 = hI h b 1 → hI h' a 2 = hI h b 2 → hI h' a 3 = hI h b 3 → hI h' a 4 = hI h b 4 → hI h' a 5 = hI h b 5 → hI h' a 6 = hI h b 6 → hF h' a 7 = hF h b 7 → hI h' a 8 = hI h b 8 → hI h' a 9 = hI h b 9 → hI h' a 10 = hI h b 10 → hL h' a 11 = hL h b 11 → hL h' a 12 = hL h b 12 → hI h' a 13 = 0 → hI h' a 14 = 0 → (none : Option Value) = none ∧ Fr1 a h h' ∧ CO h' a ct nr g c ∧ hI h' a 8 = hI h b 8 ∧ hI h' a 13 = 0 ∧ hI h' a 14 = 0 := by
    intro h' fr e0 e1 e2 e3 e4 e5 e6 e7 e8 e9 e10 e11 e12 e13 e14
    exact ⟨rfl, fr, C.copy (by rw [fr.hK]; exact ha) e0 e1 e2 e3 e4 e5 e6 e7 e9 e10 e11 e12, e8, e13, e14⟩
  refine Cm.of (by decide) (Nat.le_of_ble_eq_true rfl) (vX2_copyFrom_0 ⟨C.1.ck, ha, by rw [C.1.inn]; exact hi, st _ ?_ ?_ ?_ ?_ ?_ ?_ ?_ ?_ ?_ ?_ ?_ ?_ ?_ ?_ ?_ ?_⟩)
  · exact ((((((((((((((((Fr1.refl a h).sI _ _).sI _ _).sI _ _).sI _ _).sI _ _).sI _ _).sI _ _).sF _ _).sI _ _).sI _ _).sI _ _).sL _ _).sL _ _).sI _ _).sI _ _)
  all_goals simp (disch := decide) only [hI_sL, hI_sF, hF_sL, hF_sI, hL_sI, hL_sF, gI, gIk, gF, gL, gLk]
/-- calls of some cars are taken back: of those at o + 4 up to o + 4 + n -/
def TF (o n : Nat) (L : Int64) (h h' : PH) : Prop := h'.1 = h.1 ∧ h'.2.1 = h.2.1 ∧ h'.2.2.2.2.2 = h.2.2.2.2.2 ∧ (∀ b k, hI h' b k = hI h b k) ∧ (∀ b k, hF h' b k = hF h b k) ∧ ∀ b k, hL h' b k = if k = 12 ∧ o + 4 ≤ b ∧ b < o + 4 + n then hL h b 12 &&& (L ^^^ (-1)) else hL h b k
theorem k_takeFromAll {L : Int64} (S : BS h o) (hn : hI h o 1 = nI nc) (hc : nc ≤ 4) : CV l x mX1_takeFromAll 0 0 0 [.ref o, .long L] h (fun h' => TF o nc L h h') := by
  have loop : ∀ (j k : Nat) (h1 : PH), k + j = nc → TF o k L h h1 → Gm l x mX1_takeFromAll 0 2 [(0, .ref o), (1, .long L), (3, .int (nI k))] [] h1 0 0 (hN h) (fun v h' => v = none ∧ TF o nc L h h') (fun _ _ => False) := by
    intro j
    induction j with
    | zero =>
      intro k h1 hk T
      obtain rfl : k = nc := by omega
      refine vX1_takeFromAll_2 ⟨?_, fun _ => ⟨rfl, T⟩, fun e => absurd ?_ e⟩
      · rw [show hK h1 o = hK h o from congrFun T.2.1 o]; exact S.k
      · rw [T.2.2.2.1, hn]
        exact nI_le (Nat.le_refl _) (by omega)
    | succ j ih =>
      intro k h1 hk T
      have eK : ∀ b, hK h1 b = hK h b := fun b => congrFun T.2.1 b
      have eR : ∀ b q, hR h1 b q = hR h b q := fun b q => congrFun (congrFun T.2.2.1 b) q
      have lc := S.lc k (by omega)
      refine vX1_takeFromAll_2 ⟨by rw [eK]; exact S.k, fun e => absurd e ?_, fun _ => ⟨o + 1, by rw [eR]; exact S.l, by rw [eK, S.lk], ?_, o + 4 + k, ?_, by rw [eK]; exact lc.2, ?_⟩⟩
      · rw [T.2.2.2.1, hn]
        exact nI_ge (by omega) (by omega)
      · rw [eK, S.lk]; exact vp_in_nI (by omega) (by decide)
      · rw [nI_clamp (by omega), eR]; exact lc.1
      · rw [nI_1]
        refine ih (k + 1) _ (by omega) ⟨T.1, T.2.1, T.2.2.1, T.2.2.2.1, T.2.2.2.2.1, fun b q => ?_⟩
        have T6 := T.2.2.2.2.2
        by_cases e : q = 12 ∧ b = o + 4 + k
        · obtain ⟨rfl, rfl⟩ := e
          rw [gL, if_pos ⟨rfl, by omega, by omega⟩, T6, if_neg (fun z => by omega)]
        · have e2 : hL (sL h1 (o + 4 + k) 12 (hL h1 (o + 4 + k) 12 &&& (L ^^^ (-1)))) b q = hL h1 b q := if_neg e
          rw [e2, T6]
          by_cases z : q = 12 ∧ o + 4 ≤ b ∧ b < o + 4 + k
          · rw [if_pos z, if_pos ⟨z.1, z.2.1, by omega⟩]
          · rw [if_neg z, if_neg (fun y => z ⟨y.1, y.2.1, by
              have : b ≠ o + 4 + k := fun w => e ⟨y.1, w⟩
              omega⟩)]
  exact Cm.of (by decide) (Nat.le_of_ble_eq_true rfl) (vX1_takeFromAll_0 (loop nc 0 h (by omega) ⟨rfl, rfl, rfl, fun _ _ => rfl, fun _ _ => rfl, fun b k => (if_neg (fun z => by omega)).symm⟩))
end Bank1
