/-! THE CLASS: ticks pass -/
section Pass
variable {l : Launch} {x : CX} {h h' : PH} {o a c nc nf nr m : Nat} {f f' g g' u t ct : Nat → Int32}
/-- all calls in their order, as numbers -/
def gvL (t ct : Nat → Int32) (nr nf nc m : Nat) (f : Nat → Int32) : Nat → (Nat → Int32)
  | 0 => f
  | k + 1 => givC t ct nr nf nc m (k / 4) (k % 2 + 1) (zk k) (gvL t ct nr nf nc m f k)
theorem gvL_4 (i : Nat) : ∀ j, j ≤ 4 → gvL t ct nr nf nc m f (4 * i + j) = gv4 t ct nr nf nc m i (gvL t ct nr nf nc m f (4 * i)) j
  | 0, _ => rfl
  | j + 1, h => by
    have ih := gvL_4 i j (by omega)
    show givC t ct nr nf nc m ((4 * i + j) / 4) ((4 * i + j) % 2 + 1) (zk (4 * i + j)) (gvL t ct nr nf nc m f (4 * i + j)) = _
    rw [ih, gv4, show (4 * i + j) / 4 = i by omega, show (4 * i + j) % 2 + 1 = 1 + j % 2 by omega]
    congr 1
    unfold zk
    by_cases e : 2 ≤ j
    · rw [if_pos e, if_neg (by omega)]
    · rw [if_neg e, if_pos (by omega)]
theorem gvL_A : ∀ i, gvL t ct nr nf nc m f (4 * i) = gvA t ct nr nf nc m f i
  | 0 => rfl
  | i + 1 => by
    show gvL t ct nr nf nc m f (4 * i + 4) = _
    rw [gvL_4 i 4 (by omega), gvL_A i]
    rfl
theorem gvL_ok (I : Inv ct nc nf nr m f) (g : GI nc f) : ∀ k, k ≤ 4 * nf → Inv ct nc nf nr m (gvL t ct nr nf nc m f k) ∧ GI nc (gvL t ct nr nf nc m f k)
  | 0, _ => ⟨I, g⟩
  | k + 1, h => by
    obtain ⟨a, b⟩ := gvL_ok I g k (by omega)
    exact a.giv b (by omega) (by omega) (by omega)
theorem gvL_pl {j : Nat} (hj : j < 264) (h4 : j ≠ 4) : ∀ k, gvL t ct nr nf nc m f k j = f j
  | 0 => rfl
  | k + 1 => by
    show givC t ct nr nf nc m _ _ _ (gvL t ct nr nf nc m f k) j = _
    rw [giv_pl hj h4, gvL_pl hj h4 k]
theorem wts_gv {i : Nat} (hn : nr ≤ 24) (k : Nat) : wts (gvL t ct nr nf nc m f k) nr i ↔ wts f nr i := by
  have e : ∀ r, r < nr → ∀ q, q < 9 → gvL t ct nr nf nc m f k (48 + 9 * r + q) = f (48 + 9 * r + q) := fun r hr q hq => gvL_pl (by omega) (by omega) k
  constructor
  · intro w
    refine w.mono fun r hr h1 => ⟨(e r hr 4 (by omega)).symm.trans h1, (e r hr 5 (by omega)).symm, (e r hr 3 (by omega)).symm, (e r hr 0 (by omega)).symm⟩
  · intro w
    refine w.mono fun r hr h1 => ⟨(e r hr 4 (by omega)).trans h1, e r hr 5 (by omega), e r hr 3 (by omega), e r hr 0 (by omega)⟩
/-- a call that doesn't wait is left alone -/
theorem giv_no {k : Nat} (hk : k < 48) (hw : ¬ wts f nr k) : givC t ct nr nf nc m (k / 4) (k % 2 + 1) (zk k) f = f := by
  refine if_pos (Classical.byContradiction fun z => hw ?_)
  exact (wts_ic (zk_pm k) (by omega) (by omega) (by omega) (kix_of hk)).mpr z
theorem giv_yes {k : Nat} (hk : k < 48) (hw : wts f nr k) : givC t ct nr nf nc m (k / 4) (k % 2 + 1) (zk k) f = if wntC f k = 0 then f else givG t ct nr nf nc m (k / 4) (k % 2 + 1) (zk k) f := by
  have z := (wts_ic (f := f) (nr := nr) (zk_pm k) (by omega) (by omega) (by omega) (kix_of hk)).mp hw
  have kx : kix (k / 4) (zk k) (k % 2 + 1) = 264 + k := kix_of hk
  unfold givC wntC
  rw [if_neg z, kx]
  by_cases e : f (264 + k) ≤ 0
  · rw [if_pos e, if_pos e, if_neg (by decide)]
  · rw [if_neg e, if_neg e]
theorem gvL_stop {k : Nat} (hn : nr ≤ 24) (hf : nf ≤ 12) (hw : ∀ i, k ≤ i → i < 48 → ¬ wts f nr i) : ∀ j, k + j ≤ 4 * nf → gvL t ct nr nf nc m f (k + j) = gvL t ct nr nf nc m f k
  | 0, _ => rfl
  | j + 1, h => by
    show givC t ct nr nf nc m ((k + j) / 4) ((k + j) % 2 + 1) (zk (k + j)) (gvL t ct nr nf nc m f (k + j)) = _
    rw [giv_no (by omega) (fun z => hw (k + j) (by omega) (by omega) ((wts_gv hn _).mp z)), gvL_stop hn hf hw j (by omega)]
theorem BR.setT {v : Int32} (R : BR h o t ct nc nf nr f) (hC : nc ≤ 4) (hR : nr ≤ 24) : BR (sI h o 7 v) o t ct nc nf nr (up f 0 v) := by
  have fr : Fr1 o h (sI h o 7 v) := (Fr1.refl _ _).sI _ _
  have em : mm (up f 0 v) = mm f := by unfold mm; rw [up_ne (by omega)]
  have S := R.s.fr fr
  refine ⟨S, (gIk _ _ _ (by decide)).trans R.fl, (gIk _ _ _ (by decide)).trans R.nc, (gIk _ _ _ (by decide)).trans R.nr, (gIk _ _ _ (by decide)).trans R.dw, ?_, ?_, (gIk _ _ _ (by decide)).trans R.pk, ?_, ?_, ?_, ?_, ?_, ?_, fun c hc => ?_, fun r hr => ?_, ?_⟩
  · rw [gIk _ _ _ (by decide), up_ne (by omega)]; exact R.la
  · rw [gIk _ _ _ (by decide), up_ne (by omega)]; exact R.po
  · rw [gI, up_eq]
  · rw [gIk _ _ _ (by decide), up_ne (by omega)]; exact R.bu
  · rw [gIk _ _ _ (by decide), up_ne (by omega)]; exact R.tu
  · rw [gIk _ _ _ (by decide)]
    exact R.ar.same fun j h1 h2 => up_ne (by omega)
  · rw [gIk _ _ _ (by decide), em, peak_same (by omega) (fun j h1 h2 => up_ne (by omega))]; exact R.ru
  · rw [gIk _ _ _ (by decide), cnt_same (fun r hr => up_ne (by omega))]; exact R.fi
  · have ac := fr.ac (b := o + 4 + c) (by omega)
    refine (R.ca c hc).oth (S.lc c (by omega)).2 (fun k => (ac.2 k).1) (fun k => (ac.2 k).2.2.1) (ac.2 11).2.1 (fun k hk => up_ne (by omega)) (fun r hr => up_ne (by omega)) fun i hi => ?_
    rw [(ac.2 12).2.1, up_ne (by omega)]
    exact (R.ca c hc).1.ca i hi
  · exact ((R.ri r hr).ac (fr.ac (by omega))).row fun k hk => up_ne (by omega)
  · rw [ps_eq (fun c hc => fr.hI (by omega) 8) nc (Nat.le_refl _), up_ne (by omega)]
    exact R.pa
theorem BR.wt {r : Nat} (R : BR h o t ct nc nf nr f) (hC : nc ≤ 4) (hR : nr ≤ 24) (hr : r < nr) : BR (sI h (o + 8 + r) 7 (hI h (o + 8 + r) 7 + 1)) o t ct nc nf nr (up f (48 + 9 * r + 6) (f (48 + 9 * r + 6) + 1)) := by
  have fr : Fr1 (o + 8 + r) h (sI h (o + 8 + r) 7 (hI h (o + 8 + r) 7 + 1)) := (Fr1.refl _ _).sI _ _
  have S := R.s.fr fr
  refine R.mk' S (fun k _ => fr.hI (by omega) k) ?_ (fun j h1 _ => up_ne (by omega)) (fun c hc => ?_) (fun r' hr' => ?_) ?_
  · rw [fr.hI (by omega), R.fi, cnt_same (fun r' hr' => up_ne (by omega))]
  · have ac := fr.ac (b := o + 4 + c) (by omega)
    refine (R.ca c hc).oth (S.lc c (by omega)).2 (fun k => (ac.2 k).1) (fun k => (ac.2 k).2.2.1) (ac.2 11).2.1 (fun k hk => up_ne (by omega)) (fun r' hr' => up_ne (by omega)) fun i hi => ?_
    rw [(ac.2 12).2.1, up_ne (by omega)]
    exact (R.ca c hc).1.ca i hi
  · by_cases e : r' = r
    · subst e
      obtain ⟨q0, q1, q2, q3, q4, q5, q6, q7, q8, q9⟩ := R.ri r' hr'
      refine ⟨?_, ?_, ?_, ?_, ?_, ?_, fun z => ?_, ?_, ?_, ?_⟩
      · rw [gIk _ _ _ (by decide), up_ne (by omega)]; exact q0
      · rw [gIk _ _ _ (by decide), up_ne (by omega)]; exact q1
      · rw [gIk _ _ _ (by decide), up_ne (by omega)]; exact q2
      · rw [gIk _ _ _ (by decide), up_ne (by omega)]; exact q3
      · rw [gIk _ _ _ (by decide), up_ne (by omega)]; exact q4
      · rw [gIk _ _ _ (by decide), up_ne (by omega)]; exact q5
      · rw [up_ne (by omega)] at z
        unfold wayR
        rw [gIk _ _ _ (by decide), up_ne (by omega), up_ne (by omega)]
        exact q6 z
      · rw [gI, up_eq, q7]
      · rw [gIk _ _ _ (by decide), up_ne (by omega)]; exact q8
      · rw [gIk _ _ _ (by decide), up_ne (by omega)]; exact q9
    · exact ((R.ri r' hr').ac (fr.ac (by omega))).row fun k hk => up_ne (by omega)
  · rw [ps_eq (fun c hc => fr.hI (by omega) 8) nc (Nat.le_refl _), up_ne (by omega)]
    exact R.pa
theorem l_pass189 {x1 x2 : Int32} {h0 : PH} {rc rs n0 : Nat} {Q : Option Value → PH → Prop} {X : String → PH → Prop} (hC : nc ≤ 4) (h24 : nr ≤ 24) (K : ∀ h2, FrB o h0 h2 → BR h2 o t ct nc nf nr (wtA f nr) → Gm l x mX1_pass 4 2 [(0, .ref o), (1, .int x1), (2, .int (x2 + 1))] [] h2 rc rs n0 Q X) : ∀ (j r : Nat) (h : PH), r + j = nr → FrB o h0 h → BR h o t ct nc nf nr (wtA f r) → Gm l x mX1_pass 4 189 [(0, .ref o), (1, .int x1), (2, .int x2), (3, .int (nI r))] [] h rc rs n0 Q X := by
  intro j
  induction j with
  | zero =>
    intro r h hj fb R
    obtain rfl : r = nr := by omega
    refine vX1_pass_189 ⟨R.s.k, fun _ => K h fb R, fun e => absurd ?_ e⟩
    rw [R.nr]
    exact nI_le (Nat.le_refl _) (by omega)
  | succ j ih =>
    intro r h hj fb R
    have S := R.s
    have pr := S.pr r (by omega)
    have ro := R.ri r (by omega)
    have vpi : vp_in (nI r) (hK h (o + 2)).2 := by rw [S.pk]; exact vp_in_nI (by omega) (by decide)
    have rE : hR h (o + 2) (nI r).toNatClampNeg = some (o + 8 + r) := by rw [nI_clamp (by omega)]; exact pr.1
    have nE : wtA f (r + 1) = if wtA f r (48 + 9 * r + 4) = 1 then up (wtA f r) (48 + 9 * r + 6) (wtA f r (48 + 9 * r + 6) + 1) else wtA f r := rfl
    refine vX1_pass_189 ⟨S.k, fun e => absurd e ?_, fun _ => ⟨o + 2, S.p, by rw [S.pk], vpi, o + 8 + r, rE, pr.2, fun e1 => ?_, fun e1 => ⟨vpi, o + 8 + r, rE, pr.2, ?_⟩⟩⟩
    · rw [R.nr]
      exact nI_ge (by omega) (by omega)
    · rw [ro.wh] at e1
      rw [nI_1]
      exact ih (r + 1) h (by omega) fb (by rw [nE, if_neg e1]; exact R)
    · rw [ro.wh] at e1
      rw [nI_1]
      refine ih (r + 1) _ (by omega) (fb.trans (((Fr1.refl _ _).sI _ _).frb (a := o + 8 + r) (by omega) (by omega))) ?_
      rw [nE, if_pos e1]
      exact R.wt hC h24 (by omega)
theorem l_pass121 {x1 x2 : Int32} {v : Int64} {h0 : PH} {rc rs n0 : Nat} {Q : Option Value → PH → Prop} {X : String → PH → Prop} (hT : Tok t nf) (hct : CT ct nc) (I : Inv ct nc nf nr m f) (G : GI nc f) (hv : ∀ i, i < 64 → (bL v i = true ↔ wts f nr i)) (K : ∀ h2, FrB o h0 h2 → BR h2 o t ct nc nf nr (caA t ct nr nf m 0 (gvA t ct nr nf nc m f nf) nc) → Gm l x mX1_pass 4 189 [(0, .ref o), (1, .int x1), (2, .int x2), (3, .int 0)] [] (sI h2 o 7 (hI h2 o 7 + 1)) rc rs n0 Q X) : ∀ (j k : Nat) (h : PH), k + j = 4 * nf → FrB o h0 h → BR h o t ct nc nf nr (gvL t ct nr nf nc m f k) → Gm l x mX1_pass 4 121 [(0, .ref o), (1, .int x1), (2, .int x2), (3, .long v), (5, .int (nI k))] [] h rc rs n0 Q X := by
  have hC := I.hc
  have h24 := I.hr
  have hF12 := I.hF
  have mv : ∀ (h : PH), FrB o h0 h → BR h o t ct nc nf nr (gvA t ct nr nf nc m f nf) → ∃ (q3 : PH → Prop), CV l x mX1_moveCars 2 0 0 [.ref o] h q3 ∧ ∀ (h5 : PH), q3 h5 → ((hK h5 o).1 = 1) ∧ Gm l x mX1_pass 4 189 [(0, .ref o), (1, .int x1), (2, .int x2), (3, .int 0)] [] (sI h5 o 7 (hI h5 o 7 + 1)) rc rs n0 Q X := by
    intro h fb R
    refine ⟨_, k_moveCars hT hct R (gvA_ok I G nf (Nat.le_refl _)).1, ?_⟩
    rintro h5 ⟨b5, R5⟩
    exact ⟨R5.s.k, K h5 (fb.trans b5) R5⟩
  intro j
  induction j with
  | zero =>
    intro k h hj fb R
    obtain rfl : k = 4 * nf := by omega
    rw [gvL_A] at R
    refine vX1_pass_121 ⟨R.s.k, fun _ => mv h fb R, fun e => absurd ?_ e⟩
    rw [R.fl, n4]
    exact nI_le (Nat.le_refl _) (by omega)
  | succ j ih =>
    intro k h hj fb R
    obtain ⟨Ik, Gk⟩ := gvL_ok (t := t) I G k (by omega)
    have next : ∀ h2, FrB o h0 h2 → BR h2 o t ct nc nf nr (gvL t ct nr nf nc m f (k + 1)) → Gm l x mX1_pass 4 121 [(0, .ref o), (1, .int x1), (2, .int x2), (3, .long v), (5, .int (nI k + 1))] [] h2 rc rs n0 Q X := by
      intro h2 f2 R2
      rw [nI_1]
      exact ih (k + 1) h2 (by omega) f2 R2
    have nE : gvL t ct nr nf nc m f (k + 1) = givC t ct nr nf nc m (k / 4) (k % 2 + 1) (zk k) (gvL t ct nr nf nc m f k) := rfl
    refine vX1_pass_121 ⟨R.s.k, fun e => absurd e ?_, fun _ => ⟨fun e1 => mv h fb ?_, fun e1 => ⟨fun e2 => next h fb ?_, fun e2 => ⟨_, k_wantsCar R Ik (by omega), ?_⟩⟩⟩⟩
    · rw [R.fl, n4]
      exact nI_ge (by omega) (by omega)
    · rw [lg0, bL_zero] at e1
      have no : ∀ i, k ≤ i → i < 48 → ¬ wts f nr i := by
        intro i h1 h2 w
        have := e1 (i - k) (by omega)
        rw [bL_ushr k (by omega), show k + (i - k) = i by omega, (hv i (by omega)).mpr w] at this
        cases this
      have := gvL_stop (t := t) (ct := ct) (nf := nf) (nc := nc) (m := m) h24 hF12 no (j + 1) (by omega)
      rw [hj, gvL_A] at this
      rw [this]
      exact R
    · rw [lg0, bL_zero] at e2
      have no : ¬ wts (gvL t ct nr nf nc m f k) nr k := fun w => by
        have := e2 0 (by omega)
        rw [bL_and, bL_ushr k (by omega), Nat.add_zero, (hv k (by omega)).mpr ((wts_gv h24 k).mp w)] at this
        exact absurd this (by decide)
      rw [nE, giv_no (by omega) no]
      exact R
    · rintro _ _ ⟨rfl, rfl⟩
      have yes : wts (gvL t ct nr nf nc m f k) nr k := by
        rw [lg0, bL_nz] at e2
        obtain ⟨i, i1, i2⟩ := e2
        rw [bL_and, bL_ushr k (by omega), bL_c1 i i1, Bool.and_eq_true, decide_eq_true_eq] at i2
        rw [i2.2, Nat.add_zero] at i2
        exact (wts_gv h24 k).mpr ((hv k (by omega)).mp i2.1)
      have gy := giv_yes (t := t) (ct := ct) (nf := nf) (nc := nc) (m := m) (by omega : k < 48) yes
      refine ⟨fun e3 => next _ fb ?_, fun e3 => ⟨R.s.k, _, k_give hT R Ik Gk (by omega), ?_⟩⟩
      · rw [nE, gy, if_pos e3]
        exact R
      · rintro h2 ⟨b2, R2⟩
        refine next h2 (fb.trans b2) ?_
        rw [nE, gy, if_neg e3]
        exact R2
theorem l_pass47 {x1 x2 : Int32} {h0 : PH} {rc rs n0 : Nat} {Q : Option Value → PH → Prop} {X : String → PH → Prop} (NX : NestOk x RX1 140 yX7_callNumber "LiftBank") (hT : Tok t nf) (hct : CT ct nc) (I : Inv ct nc nf nr m f) (G : GI nc f) (K : ∀ h2, FrB o h0 h2 → BR h2 o t ct nc nf nr (tickC t ct nr nf nc f) → Gm l x mX1_pass 4 2 [(0, .ref o), (1, .int x1), (2, .int (x2 + 1))] [] h2 rc rs n0 Q X) : ∀ (j r : Nat) (h : PH), r + j = nr → FrB o h0 h → BR h o t ct nc nf nr (cmA f r) → Gm l x mX1_pass 4 47 [(0, .ref o), (1, .int x1), (2, .int x2), (3, .int (nI r))] [] h rc rs n0 Q X := by
  have hC := I.hc
  have h24 := I.hr
  intro j
  induction j with
  | zero =>
    intro r h hj fb R
    obtain rfl : r = nr := by omega
    obtain ⟨m', I', G'⟩ := cmA_ok I G r (Nat.le_refl _)
    have fin : ∀ h2, FrB o h0 h2 → BR h2 o t ct nc nf r (tkC t ct r nf nc m' (cmA f r)) → Gm l x mX1_pass 4 189 [(0, .ref o), (1, .int x1), (2, .int x2), (3, .int 0)] [] (sI h2 o 7 (hI h2 o 7 + 1)) rc rs n0 Q X := by
      intro h2 b2 R2
      have R3 := R2.setT (v := hI h2 o 7 + 1) hC h24
      rw [R2.ti] at R3 ⊢
      refine l_pass189 (f := up (tkC t ct r nf nc m' (cmA f r)) 0 (tkC t ct r nf nc m' (cmA f r) 0 + 1)) hC h24 (fun h3 b3 R4 => K h3 b3 ?_) r 0 _ (by omega) (b2.trans (((Fr1.refl _ _).sI _ _).frb (a := o) (by omega) (by omega))) R3
      unfold tickC tkD
      rw [I'.i_mm]
      exact R4
    refine vX1_pass_47 ⟨R.s.k, fun _ => ?_, fun e => absurd ?_ e⟩
    · rw [R.bu]
      unfold tkC tkB at fin
      refine ⟨fun e => ⟨_, k_callsWaiting NX R.po' I', ?_⟩, fun e => ⟨_, k_flee hT R I', ?_⟩⟩
      · rintro v _ ⟨hv, rfl⟩
        rw [show fireC (cmA f r) = 0 from if_neg (by rw [e]; decide), if_pos rfl] at fin
        exact l_pass121 hT hct I' G' hv fin (4 * nf) 0 _ (by omega) fb R
      · rintro h2 ⟨b2, R2⟩
        have e1 : cmA f r 1 = 1 := by
          rcases G'.1 with z | z
          · exact absurd z e
          · exact z
        rw [show fireC (cmA f r) = 1 from if_pos e1, if_neg (by decide)] at fin
        exact ⟨R2.s.k, fin h2 (fb.trans b2) R2⟩
    · rw [R.nr]
      exact nI_le (Nat.le_refl _) (by omega)
  | succ j ih =>
    intro r h hj fb R
    obtain ⟨m', I', G'⟩ := cmA_ok I G r (by omega)
    have S := R.s
    have pr := S.pr r (by omega)
    have ro := R.ri r (by omega)
    have vpi : vp_in (nI r) (hK h (o + 2)).2 := by rw [S.pk]; exact vp_in_nI (by omega) (by decide)
    have rE : hR h (o + 2) (nI r).toNatClampNeg = some (o + 8 + r) := by rw [nI_clamp (by omega)]; exact pr.1
    have nE : cmA f (r + 1) = if cmA f r (48 + 9 * r + 4) = 0 then (if cmA f r (48 + 9 * r + 1) = cmA f r 0 then comC (cmA f r) r else cmA f r) else cmA f r := rfl
    have next : ∀ h2, FrB o h0 h2 → BR h2 o t ct nc nf nr (cmA f (r + 1)) → Gm l x mX1_pass 4 47 [(0, .ref o), (1, .int x1), (2, .int x2), (3, .int (nI r + 1))] [] h2 rc rs n0 Q X := by
      intro h2 f2 R2
      rw [nI_1]
      exact ih (r + 1) h2 (by omega) f2 R2
    refine vX1_pass_47 ⟨S.k, fun e => absurd e ?_, fun _ => ⟨o + 2, S.p, by rw [S.pk], vpi, o + 8 + r, rE, pr.2, fun e1 => next h fb ?_, fun e1 => ⟨vpi, o + 8 + r, rE, pr.2, fun e2 => next h fb ?_, fun e2 => ⟨vpi, o + 8 + r, rE, _, k_arrive R I' (by omega) (ro.wh ▸ e1), ?_⟩⟩⟩⟩
    · rw [R.nr]
      exact nI_ge (by omega) (by omega)
    · rw [ro.wh] at e1
      rw [nE, if_neg e1]; exact R
    · rw [ro.wh] at e1
      rw [ro.co, R.ti] at e2
      rw [nE, if_pos e1, if_neg e2]; exact R
    · rw [ro.wh] at e1
      rw [ro.co, R.ti] at e2
      rintro h2 ⟨b2, R2⟩
      refine next h2 (fb.trans b2) ?_
      rw [nE, if_pos e1, if_pos e2]
      exact R2
theorem k_pass {n : Nat} (NX : NestOk x RX1 140 yX7_callNumber "LiftBank") (hT : Tok t nf) (hct : CT ct nc) (R : BR h o t ct nc nf nr f) (W : Row ct nc nf nr f) (hn : n < 100000) : CV l x mX1_pass 4 0 0 [.ref o, .int (nI n)] h (fun h' => FrB o h h' ∧ BR h' o t ct nc nf nr (ticksC t ct nr nf nc f n)) := by
  have loop : ∀ (j k : Nat) (h1 : PH), k + j = n → FrB o h h1 → BR h1 o t ct nc nf nr (ticksC t ct nr nf nc f k) → Gm l x mX1_pass 4 2 [(0, .ref o), (1, .int (nI n)), (2, .int (nI k))] [] h1 0 0 (hN h) (fun v h' => v = none ∧ FrB o h h' ∧ BR h' o t ct nc nf nr (ticksC t ct nr nf nc f n)) (fun _ _ => False) := by
    intro j
    induction j with
    | zero =>
      intro k h1 hj fb R1
      obtain rfl : k = n := by omega
      exact vX1_pass_2 ⟨fun _ => ⟨rfl, fb, R1⟩, fun e => absurd (nI_le (Nat.le_refl _) (by omega)) e⟩
    | succ j ih =>
      intro k h1 hj fb R1
      obtain ⟨⟨m', I'⟩, G', A'⟩ := Row.ticks (t := t) hT W k
      have hC := I'.hc
      have h24 := I'.hr
      have go : Gm l x mX1_pass 4 47 [(0, .ref o), (1, .int (nI n)), (2, .int (nI k)), (3, .int 0)] [] h1 0 0 (hN h) (fun v h' => v = none ∧ FrB o h h' ∧ BR h' o t ct nc nf nr (ticksC t ct nr nf nc f n)) (fun _ _ => False) := by
        refine l_pass47 NX hT hct I' G' (fun h2 b2 R2 => ?_) nr 0 h1 (by omega) fb R1
        rw [nI_1]
        exact ih (k + 1) h2 (by omega) b2 R2
      refine vX1_pass_2 ⟨fun e => absurd e (nI_ge (by omega) (by omega)), fun _ => ⟨R1.s.k, fun _ => go, fun e1 => ⟨fun _ => go, fun e2 => ⟨_, k_isAsleep R1 I', ?_⟩⟩⟩⟩
      rintro v _ ⟨hv, rfl⟩
      refine ⟨fun _ => go, fun e3 => ⟨R1.s.k, rfl, fb.trans (((Fr1.refl _ _).sI _ _).frb (a := o) (by omega) (by omega)), ?_⟩⟩
      obtain ⟨Q, Wy⟩ := hv.mp e3
      rw [R1.bu] at e1
      have As : AsP t nc nr (ticksC t ct nr nf nc f k) := ⟨by rw [e1]; decide, Q, Wy⟩
      have := ticks_add (t := t) (ct := ct) (nr := nr) (nf := nf) (nc := nc) (f := f) k (j + 1)
      rw [hj, ticks_as I' A' As] at this
      rw [this, pk_sub (by omega), show n - k = j + 1 by omega, R1.ti]
      exact R1.setT hC h24
  exact Cm.of (by decide) (Nat.le_of_ble_eq_true rfl) (vX1_pass_0 (loop n 0 h (by omega) (FrB.refl _ _) R))
end Pass
