/-! THE REFERENCE: rows that may change beside; late, chosen, gives, comes -/
/-- h2 is h but for the rows of S -/
def SB (S : List Nat) (mo : Nat) (h h2 : PH) : Prop := h2.1 = h.1 ∧ h2.2.1 = h.2.1 ∧ h2.2.2.2 = h.2.2.2 ∧ ∀ b, (∀ s ∈ S, b ≠ mo + s) → ∀ j, hI h2 b j = hI h b j
theorem SB.refl (S : List Nat) (mo : Nat) (h : PH) : SB S mo h h := ⟨rfl, rfl, rfl, fun _ _ _ => rfl⟩
theorem SB.trans {S : List Nat} {mo : Nat} {h1 h2 h3 : PH} (a : SB S mo h1 h2) (b : SB S mo h2 h3) : SB S mo h1 h3 := ⟨b.1.trans a.1, b.2.1.trans a.2.1, b.2.2.1.trans a.2.2.1, fun c hc j => (b.2.2.2 c hc j).trans (a.2.2.2 c hc j)⟩
theorem SB.mono {S S' : List Nat} {mo : Nat} {h1 h2 : PH} (a : SB S mo h1 h2) (hS : ∀ s ∈ S, s ∈ S') : SB S' mo h1 h2 := ⟨a.1, a.2.1, a.2.2.1, fun c hc j => a.2.2.2 c (fun s hs => hc s (hS s hs)) j⟩
theorem SB.row {S : List Nat} {mo s : Nat} (h : PH) (u : Nat → Int32) (hs : s ∈ S) : SB S mo h (rw1 h (mo + s) u) := ⟨rfl, rfl, rfl, fun b hb j => by rw [hI_rw, if_neg (hb s hs)]⟩
theorem SB.hK {S : List Nat} {mo : Nat} {h h2 : PH} (a : SB S mo h h2) (b : Nat) : hK h2 b = hK h b := congrFun a.2.1 b
theorem SB.hR {S : List Nat} {mo : Nat} {h h2 : PH} (a : SB S mo h h2) (b j : Nat) : hR h2 b j = hR h b j := congrFun (congrFun (congrArg (fun q => q.2.2) a.2.2.1) b) j
theorem SB.mw {S : List Nat} {mo : Nat} {h h2 : PH} (a : SB S mo h h2) (w : MW mo h) : MW mo h2 := by
  obtain ⟨q1, q2, q3, q4, q5⟩ := w
  refine ⟨?_, fun q hq => ?_, ?_, ?_, fun j hj => ?_⟩
  · rw [a.hK]; exact q1
  · rw [a.hR, a.hK]; exact q2 q hq
  · rw [a.hR]; exact q3
  · rw [a.hK]; exact q4
  · rw [a.hR]; exact q5 j hj
/-- the reference's cells, and what is told in them -/
def RW (mo : Nat) (t ct : Nat → Int32) (h : PH) : Prop := MW mo h ∧ (∀ k, hI h (mo + 4) k = t k) ∧ ∀ k, hI h (mo + 6) k = ct k
theorem RW.sb {mo : Nat} {t ct : Nat → Int32} {h h2 : PH} {S : List Nat} (w : RW mo t ct h) (a : SB S mo h h2) (h4 : 4 ∉ S) (h6 : 6 ∉ S) : RW mo t ct h2 :=
  ⟨a.mw w.1, fun k => (a.2.2.2 _ (fun s hs e => h4 (by rw [show (4 : Nat) = s by omega]; exact hs)) k).trans (w.2.1 k), fun k => (a.2.2.2 _ (fun s hs e => h6 (by rw [show (6 : Nat) = s by omega]; exact hs)) k).trans (w.2.2 k)⟩
theorem RW.b {mo : Nat} {t ct : Nat → Int32} {h h2 : PH} (w : RW mo t ct h) (a : SB [11] mo h h2) : RW mo t ct h2 := w.sb a (by decide) (by decide)
/-- what is told, and what of a row no car and no rider has -/
def TK (t : Nat → Int32) (nc nf : Nat) : Prop := Tok t nf ∧ t 1 = nI nc
def GI (nc : Nat) (f : Nat → Int32) : Prop := (f 1 = 0 ∨ f 1 = 1) ∧ (f 2 = 0 ∨ f 2 = 1 ∨ f 2 = 2) ∧ ∃ k, f 4 + 1 = nI k ∧ k ≤ nc
def absI (a : Int32) : Int32 := if 0 ≤ a then a else 0 - a
def lateC (f : Nat → Int32) (c : Nat) (y : Int32) : Int32 := if f 3 ≤ 0 then 0 else if f 2 = 0 then 0 else if f (16 + 8 * c + 2) = 0 then (if absI (f (16 + 8 * c) - y) ≤ f 3 then 0 else 1) else 0
def cixC (f : Nat → Int32) (nc k : Nat) : Nat := if f 2 = 0 then ((f 4 + 1).toNatClampNeg + k) % nc else k
def prc (t ct : Nat → Int32) (nr nf m c fl s : Nat) (z : Int32) (f : Nat → Int32) : Int32 := if f 2 = 0 then 0 else if f 2 = 1 then absI (f (16 + 8 * c) - nI fl) else costC t ct nr nf m c fl s z f
def pck (p : Int32 × Int32) (s v : Int32) : Int32 × Int32 := (if p.1 = -1 then s else (if v < p.2 then s else p.1), if p.1 = -1 then v else (if v < p.2 then v else p.2))
def choA (t ct : Nat → Int32) (nr nf nc m fl s : Nat) (z : Int32) (f : Nat → Int32) : Nat → Int32 × Int32
  | 0 => (-1, 0)
  | k + 1 => if f (16 + 8 * cixC f nc k + 4) = 0 then choA t ct nr nf nc m fl s z f k else if takesC ct (cixC f nc k) (nI s) = 0 then choA t ct nr nf nc m fl s z f k else if f 2 = 0 ∧ ¬ (choA t ct nr nf nc m fl s z f k).1 = -1 then choA t ct nr nf nc m fl s z f k else pck (choA t ct nr nf nc m fl s z f k) (nI (cixC f nc k)) (prc t ct nr nf m (cixC f nc k) fl s z f)
def choC (t ct : Nat → Int32) (nr nf nc m fl s : Nat) (z : Int32) (f : Nat → Int32) : Int32 := (choA t ct nr nf nc m fl s z f nc).1
theorem nowI {mo : Nat} {h : PH} {f : Nat → Int32} (k : Nat) : hI (NW mo h f) (mo + 2) k = f k := hI_rws h (mo + 2) k f
theorem toldI {mo : Nat} {h : PH} {f : Nat → Int32} (k : Nat) : hI (NW mo h f) (mo + 4) k = hI h (mo + 4) k := by rw [hI_rw, if_neg (by omega)]
section Ref11
variable {l : Launch} {x : CX} {mo : Nat} {h : PH} {f t ct : Nat → Int32}
theorem c_isLate {c : Nat} {y : Int32} (w : MW mo h) (hc : c < 4) : CI l x mX8_isLate 1 0 0 [.ref mo, .int (nI c), .int y] (NW mo h f) (fun v h' => v = lateC f c y ∧ h' = NW mo h f) := by
  have w2 := w.row 2 2 312 (by decide)
  have i3 : vp_in 3 (hK h (mo + 2)).2 := by rw [w2.2.2]; exact vp_in_nI (n := 3) (by decide) (by decide)
  have i2 : vp_in 2 (hK h (mo + 2)).2 := by rw [w2.2.2]; exact vp_in_nI (n := 2) (by decide) (by decide)
  have n3 : hI (NW mo h f) (mo + 2) (Int32.toNatClampNeg 3) = f 3 := nowI 3
  have n2 : hI (NW mo h f) (mo + 2) (Int32.toNatClampNeg 2) = f 2 := nowI 2
  refine Cm.of (by decide) (Nat.le_of_ble_eq_true rfl) (vX8_isLate_0 ⟨w.1, mo + 2, w2.1, w2.2.1, i3, ?_⟩)
  rw [n3, n2]
  unfold lateC absI
  refine ⟨fun e => ⟨by decide, _, rfl, (if_pos e).symm, rfl⟩, fun e => ⟨i2, fun e2 => ⟨by decide, _, rfl, ((if_neg e).trans (if_pos e2)).symm, rfl⟩, fun e2 => ⟨_, c_carOf (k := 2) w hc (by decide), ?_⟩⟩⟩
  rintro _ _ ⟨rfl, rfl⟩
  refine ⟨fun e3 => ⟨by decide, _, rfl, ((if_neg e).trans ((if_neg e2).trans (if_neg e3))).symm, rfl⟩, fun e3 => ⟨w.1, _, c_carOf (k := 0) w hc (by decide), ?_⟩⟩
  rintro _ _ ⟨rfl, rfl⟩
  refine ⟨w.1, mo + 2, w2.1, w2.2.1, i3, ?_⟩
  rw [n3]
  exact ⟨fun e4 => ⟨by decide, _, rfl, ((if_neg e).trans ((if_neg e2).trans ((if_pos e3).trans (if_pos e4)))).symm, rfl⟩, fun e4 => ⟨by decide, _, rfl, ((if_neg e).trans ((if_neg e2).trans ((if_pos e3).trans (if_neg e4)))).symm, rfl⟩⟩
theorem cix_lt {nc k : Nat} (hk : k < nc) : cixC f nc k < nc := by
  unfold cixC
  split
  · exact Nat.mod_lt _ (by omega)
  · exact hk
theorem l_chosen {nr nf nc m fl s : Nat} {z : Int32} {rc rs n0 : Nat} {X : String → PH → Prop} (hT : TK t nc nf) (I : Inv ct nc nf nr m f) (g : GI nc f) (hfl : fl < nf) (h1 : 1 ≤ s) (h2 : s ≤ 2) {h0 : PH} (w0 : RW mo t ct h0) : ∀ (j k : Nat) (h : PH), k + j = nc → SB [11] mo h0 h → Gm l x mX8_chosen 8 9 [(0, .ref mo), (1, .int (nI fl)), (2, .int z), (3, .int (nI s)), (4, .int (choA t ct nr nf nc m fl s z f k).1), (5, .int (choA t ct nr nf nc m fl s z f k).2), (6, .int (nI k))] [] (NW mo h f) rc rs n0 (fun v h' => ∃ r, v = some (.int r) ∧ r = choC t ct nr nf nc m fl s z f ∧ ∃ h2, SB [11] mo h0 h2 ∧ h' = NW mo h2 f) X := by
  have hF := I.hF
  have hC := I.hc
  intro j
  induction j with
  | zero =>
    intro k h hk hs
    have wr := w0.b hs
    have w := wr.1
    have w4 := w.row 4 4 7 (by decide)
    have t1 : hI (NW mo h f) (mo + 4) (Int32.toNatClampNeg 1) = nI nc := (toldI 1).trans ((wr.2.1 1).trans hT.2)
    obtain rfl : k = nc := by omega
    refine vX8_chosen_9 ⟨w.1, mo + 4, w4.1, w4.2.1, ?_, fun _ => ⟨_, rfl, rfl, h, hs, rfl⟩, fun e => absurd ?_ e⟩
    · show vp_in 1 (hK h (mo + 4)).2
      rw [w4.2.2]; exact vp_in_nI (n := 1) (by decide) (by decide)
    · rw [t1]
      exact nI_le (Nat.le_refl _) (by omega)
  | succ j ih =>
    intro k h hk hs
    have wr := w0.b hs
    have w := wr.1
    have w4 := w.row 4 4 7 (by decide)
    have w2 := w.row 2 2 312 (by decide)
    have t1 : hI (NW mo h f) (mo + 4) (Int32.toNatClampNeg 1) = nI nc := (toldI 1).trans ((wr.2.1 1).trans hT.2)
    have n2 : hI (NW mo h f) (mo + 2) (Int32.toNatClampNeg 2) = f 2 := nowI 2
    have n4 : hI (NW mo h f) (mo + 2) (Int32.toNatClampNeg 4) = f 4 := nowI 4
    have i1 : vp_in 1 (hK h (mo + 4)).2 := by rw [w4.2.2]; exact vp_in_nI (n := 1) (by decide) (by decide)
    have i2 : vp_in 2 (hK h (mo + 2)).2 := by rw [w2.2.2]; exact vp_in_nI (n := 2) (by decide) (by decide)
    have i4 : vp_in 4 (hK h (mo + 2)).2 := by rw [w2.2.2]; exact vp_in_nI (n := 4) (by decide) (by decide)
    have hcx := cix_lt (f := f) (nc := nc) (k := k) (by omega)
    generalize hp : choA t ct nr nf nc m fl s z f k = p
    have next : ∀ (h' : PH) (q : Int32 × Int32), SB [11] mo h0 h' → choA t ct nr nf nc m fl s z f (k + 1) = q → Gm l x mX8_chosen 8 9 [(0, .ref mo), (1, .int (nI fl)), (2, .int z), (3, .int (nI s)), (4, .int q.1), (5, .int q.2), (6, .int (nI k + 1))] [] (NW mo h' f) rc rs n0 (fun v h' => ∃ r, v = some (.int r) ∧ r = choC t ct nr nf nc m fl s z f ∧ ∃ h2, SB [11] mo h0 h2 ∧ h' = NW mo h2 f) X := by
      intro h' q hs' hq
      have h9 := ih (k + 1) h' (by omega) hs'
      rw [hq, ← nI_1] at h9
      exact h9
    have cst : ¬ f (16 + 8 * cixC f nc k + 4) = 0 → ¬ takesC ct (cixC f nc k) (nI s) = 0 → ¬ (f 2 = 0 ∧ ¬ p.1 = -1) → choA t ct nr nf nc m fl s z f (k + 1) = pck p (nI (cixC f nc k)) (prc t ct nr nf m (cixC f nc k) fl s z f) := by
      intro a1 a2 a3
      subst hp
      exact (if_neg a1).trans ((if_neg a2).trans (if_neg a3))
    have at52 : Gm l x mX8_chosen 8 52 [(0, .ref mo), (1, .int (nI fl)), (2, .int z), (3, .int (nI s)), (4, .int p.1), (5, .int p.2), (6, .int (nI k))] [.int (nI (cixC f nc k))] (NW mo h f) rc rs n0 (fun v h' => ∃ r, v = some (.int r) ∧ r = choC t ct nr nf nc m fl s z f ∧ ∃ h2, SB [11] mo h0 h2 ∧ h' = NW mo h2 f) X := by
      refine vX8_chosen_52 ⟨w.1, _, c_carOf (k := 4) w (by omega) (by decide), ?_⟩
      rintro _ _ ⟨rfl, rfl⟩
      refine ⟨fun e1 => next h p hs (by rw [← hp]; exact if_pos e1), fun e1 => ⟨w.1, _, c_takes (g := NW mo h f) w (by omega), ?_⟩⟩
      rintro _ _ ⟨rfl, rfl⟩
      have ect : hI (NW mo h f) (mo + 6) = ct := funext fun q => by rw [hI_rw, if_neg (by omega)]; exact wr.2.2 q
      rw [ect]
      refine ⟨fun e2 => next h p hs (by rw [← hp]; exact (if_neg e1).trans (if_pos e2)), fun e2 => ⟨w.1, mo + 2, w2.1, w2.2.1, i2, ?_⟩⟩
      rw [n2]
      refine ⟨fun e3 => ⟨i2, fun _ => ⟨i2, fun e4 => ⟨_, c_costOf w (by omega) (by omega) h1 h2 (Inv.good hT.1 hcx wr.2.1) (I.cst hcx hfl h1 h2 e2) wr.2.2, ?_⟩, fun e4 => ⟨_, c_carOf (k := 0) w (by omega) (by decide), ?_⟩⟩, fun e => absurd e e3⟩, fun e3 => ⟨fun e5 => ⟨i2, fun e => absurd e3 e, fun _ => ?_⟩, fun e5 => ?_⟩⟩
      · rintro _ _ ⟨rfl, u, g', rfl⟩
        have kk : hK (rw1 h (mo + 11) u) (mo + 2) = (100, 312) := Prod.ext w2.2.1 w2.2.2
        refine Gm.ext (hEq_row (n := 312) (v := f) kk fun j hj => if_pos hj) ?_
        have h9 := next (rw1 h (mo + 11) u) _ (hs.trans (SB.row h u (by decide))) (cst e1 e2 (fun q => e3 q.1))
        have ep : prc t ct nr nf m (cixC f nc k) fl s z f = costC t ct nr nf m (cixC f nc k) fl s z f := (if_neg e3).trans (if_neg e4)
        rw [ep] at h9
        exact h9
      · rintro _ _ ⟨rfl, rfl⟩
        have h9 := cst e1 e2 (fun q => e3 q.1)
        have ep : prc t ct nr nf m (cixC f nc k) fl s z f = absI (f (16 + 8 * cixC f nc k) - nI fl) := (if_neg e3).trans (if_pos e4)
        rw [ep] at h9
        refine ⟨fun e5 => next h (_, _) hs (h9.trans (Prod.ext (if_pos e5) (if_pos e5))), fun e5 => ⟨fun e6 => next h (_, _) hs (h9.trans (Prod.ext ((if_neg e5).trans (if_pos e6)) ((if_neg e5).trans (if_pos e6)))), fun e6 => next h (_, _) hs (h9.trans (Prod.ext ((if_neg e5).trans (if_neg e6)) ((if_neg e5).trans (if_neg e6))))⟩⟩
      · have h9 := next h _ hs (cst e1 e2 (fun q => q.2 e5))
        have ep : prc t ct nr nf m (cixC f nc k) fl s z f = 0 := if_pos e3
        rw [ep] at h9
        exact h9
      · exact next h p hs (by rw [← hp]; exact (if_neg e1).trans ((if_neg e2).trans (if_pos ⟨e3, by rw [hp]; exact e5⟩)))
    refine vX8_chosen_9 ⟨w.1, mo + 4, w4.1, w4.2.1, i1, fun e => absurd e ?_, fun _ => ⟨mo + 2, w2.1, w2.2.1, i2, ?_⟩⟩
    · rw [t1]
      exact nI_ge (by omega) (by omega)
    · rw [n2, n4, t1]
      obtain ⟨k0, hk0, hk1⟩ := g.2.2
      refine ⟨fun e => ?_, fun e => ⟨i4, i1, nI_ne0 (by omega) (by omega), ?_⟩⟩
      · have ex : cixC f nc k = k := if_neg e
        rw [ex] at at52
        exact at52
      · have ex : cixC f nc k = (k0 + k) % nc := (if_pos e).trans (by rw [hk0, nI_clamp (by omega)])
        rw [ex] at at52
        rw [hk0, nI_add, pk_rem (by omega) (by omega) (by omega)]
        exact at52
theorem c_chosen {nr nf nc m fl s : Nat} {z : Int32} (w : RW mo t ct h) (hT : TK t nc nf) (I : Inv ct nc nf nr m f) (g : GI nc f) (hfl : fl < nf) (h1 : 1 ≤ s) (h2 : s ≤ 2) : CI l x mX8_chosen 8 0 0 [.ref mo, .int (nI fl), .int z, .int (nI s)] (NW mo h f) (fun v h' => v = choC t ct nr nf nc m fl s z f ∧ ∃ h2, SB [11] mo h h2 ∧ h' = NW mo h2 f) :=
  Cm.of (by decide) (Nat.le_of_ble_eq_true rfl) (vX8_chosen_0 (l_chosen hT I g hfl h1 h2 w nc 0 h (by omega) (SB.refl _ _ _)))
def givG (t ct : Nat → Int32) (nr nf nc m fl s : Nat) (z : Int32) (f : Nat → Int32) : Nat → Int32 :=
  if choC t ct nr nf nc m fl s z f = -1 then up f (kix fl z s) (choC t ct nr nf nc m fl s z f + 1) else if f 2 = 0 then up (up f (kix fl z s) (choC t ct nr nf nc m fl s z f + 1)) 4 (choC t ct nr nf nc m fl s z f) else up f (kix fl z s) (choC t ct nr nf nc m fl s z f + 1)
def givC (t ct : Nat → Int32) (nr nf nc m fl s : Nat) (z : Int32) (f : Nat → Int32) : Nat → Int32 :=
  if icA f (nI fl) z (nI s) nr = 0 then f else if f (kix fl z s) ≤ 0 then givG t ct nr nf nc m fl s z f else if lateC f (f (kix fl z s) - 1).toNatClampNeg (nI fl) = 0 then f else givG t ct nr nf nc m fl s z f
theorem c_gives {nr nf nc m fl s : Nat} {z : Int32} (w : RW mo t ct h) (hT : TK t nc nf) (I : Inv ct nc nf nr m f) (g : GI nc f) (hfl : fl < nf) (h1 : 1 ≤ s) (h2 : s ≤ 2) : CV l x mX8_gives 9 0 0 [.ref mo, .int (nI fl), .int z, .int (nI s)] (NW mo h f) (fun h' => ∃ h2, SB [11] mo h h2 ∧ h' = NW mo h2 (givC t ct nr nf nc m fl s z f)) := by
  have hF := I.hF
  have hC := I.hc
  have hk := kix_lt (y := z) (by omega : fl < 12) h1 h2
  obtain ⟨i, hi, hki⟩ := kix_264 (w := z) (by omega : fl < 12) h1 h2
  have w2 := w.1.row 2 2 312 (by decide)
  have ik : vp_in (nI (kix fl z s)) (hK h (mo + 2)).2 := by rw [w2.2.2]; exact vp_in_nI hk (by decide)
  have i2 : vp_in 2 (hK h (mo + 2)).2 := by rw [w2.2.2]; exact vp_in_nI (n := 2) (by decide) (by decide)
  have i4 : vp_in 4 (hK h (mo + 2)).2 := by rw [w2.2.2]; exact vp_in_nI (n := 4) (by decide) (by decide)
  have nk : hI (NW mo h f) (mo + 2) (nI (kix fl z s)).toNatClampNeg = f (kix fl z s) := by rw [nI_clamp (by omega)]; exact nowI _
  have fin : ∀ (h3 : PH), SB [11] mo h h3 → (hR (NW mo h3 f) mo 2 = some (mo + 2) ∧ (hK (NW mo h3 f) (mo + 2)).1 = 100 ∧ vp_in (nI (kix fl z s)) (hK (NW mo h3 f) (mo + 2)).2 ∧ ((choC t ct nr nf nc m fl s z f = -1 → (none : Option Value) = none ∧ ∃ h2, SB [11] mo h h2 ∧ sI (NW mo h3 f) (mo + 2) (nI (kix fl z s)).toNatClampNeg (choC t ct nr nf nc m fl s z f + 1) = NW mo h2 (givG t ct nr nf nc m fl s z f)) ∧ (¬ choC t ct nr nf nc m fl s z f = -1 → vp_in 2 (hK (NW mo h3 f) (mo + 2)).2 ∧ ((¬ hI (sI (NW mo h3 f) (mo + 2) (nI (kix fl z s)).toNatClampNeg (choC t ct nr nf nc m fl s z f + 1)) (mo + 2) (Int32.toNatClampNeg 2) = 0 → (none : Option Value) = none ∧ ∃ h2, SB [11] mo h h2 ∧ sI (NW mo h3 f) (mo + 2) (nI (kix fl z s)).toNatClampNeg (choC t ct nr nf nc m fl s z f + 1) = NW mo h2 (givG t ct nr nf nc m fl s z f)) ∧ (hI (sI (NW mo h3 f) (mo + 2) (nI (kix fl z s)).toNatClampNeg (choC t ct nr nf nc m fl s z f + 1)) (mo + 2) (Int32.toNatClampNeg 2) = 0 → vp_in 4 (hK (NW mo h3 f) (mo + 2)).2 ∧ (none : Option Value) = none ∧ ∃ h2, SB [11] mo h h2 ∧ sI (sI (NW mo h3 f) (mo + 2) (nI (kix fl z s)).toNatClampNeg (choC t ct nr nf nc m fl s z f + 1)) (mo + 2) (Int32.toNatClampNeg 4) (choC t ct nr nf nc m fl s z f) = NW mo h2 (givG t ct nr nf nc m fl s z f)))))) := by
    intro h3 hs
    have w3 := (w.b hs).1.row 2 2 312 (by decide)
    have v2 : hI (NW mo h3 (up f (kix fl z s) (choC t ct nr nf nc m fl s z f + 1))) (mo + 2) (Int32.toNatClampNeg 2) = f 2 := (nowI 2).trans (up_ne (by omega))
    have ek : hK h3 (mo + 2) = hK h (mo + 2) := hs.hK _
    rw [nI_clamp (by omega), sI_rws, v2, sI_rws]
    refine ⟨w3.1, w3.2.1, ?_, fun e => ⟨rfl, h3, hs, ?_⟩, fun e => ⟨?_, fun e2 => ⟨rfl, h3, hs, ?_⟩, fun e2 => ⟨?_, rfl, h3, hs, ?_⟩⟩⟩
    · rw [hK_rw, ek]; exact ik
    · rw [givG, if_pos e]
    · rw [hK_rw, ek]; exact i2
    · rw [givG, if_neg e, if_neg e2]
    · rw [hK_rw, ek]; exact i4
    · rw [givG, if_neg e, if_pos e2]; rfl
  refine Cm.of (by decide) (Nat.le_of_ble_eq_true rfl) (vX8_gives_0 ⟨_, c_callAt h1, ?_⟩)
  rintro _ _ ⟨rfl, rfl⟩
  refine ⟨w.1.1, _, c_isCall w.1 I.h6 I.hr, ?_⟩
  rintro _ _ ⟨rfl, rfl⟩
  refine ⟨fun e1 => ⟨rfl, h, SB.refl _ _ _, by rw [givC, if_pos e1]⟩, fun e1 => ⟨w.1.1, mo + 2, w2.1, w2.2.1, ik, ?_⟩⟩
  rw [nk]
  refine ⟨fun e2 => ⟨_, c_chosen w hT I g hfl h1 h2, ?_⟩, fun e2 => ⟨ik, ?_⟩⟩
  · rintro _ _ ⟨rfl, h3, hs, rfl⟩
    have eg : givC t ct nr nf nc m fl s z f = givG t ct nr nf nc m fl s z f := (if_neg e1).trans (if_pos e2)
    rw [eg]
    exact ⟨(w.b hs).1.1, mo + 2, fin h3 hs⟩
  · obtain ⟨v, hv, hv2, _⟩ := I.call i hi
    rw [← hki] at hv
    cases v with
    | zero => rw [hv] at e2; exact absurd (by decide) e2
    | succ v =>
      have ev : f (kix fl z s) - 1 = nI v := by rw [hv, nI_pred]
      have ev2 : (f (kix fl z s) - 1).toNatClampNeg = v := by rw [ev, nI_clamp (by omega)]
      have eg : givC t ct nr nf nc m fl s z f = if lateC f v (nI fl) = 0 then f else givG t ct nr nf nc m fl s z f := (if_neg e1).trans ((if_neg e2).trans (by rw [ev2]))
      rw [ev, eg]
      refine ⟨_, c_isLate w.1 (by omega), ?_⟩
      rintro _ _ ⟨rfl, rfl⟩
      refine ⟨fun e3 => ⟨w.1.1, _, c_chosen w hT I g hfl h1 h2, ?_⟩, fun e3 => ⟨rfl, h, SB.refl _ _ _, by rw [if_pos e3]⟩⟩
      rintro _ _ ⟨rfl, h3, hs, rfl⟩
      rw [if_neg e3]
      exact ⟨(w.b hs).1.1, mo + 2, fin h3 hs⟩
def cmG (f : Nat → Int32) (r : Nat) : Nat → Int32 := up (up f (48 + 9 * r + 4) 1) (48 + 9 * r + 5) (f (48 + 9 * r + 2))
def shA (f : Nat → Int32) (i : Nat) : Nat → Int32 := fun j => if 8 ≤ j ∧ j < 8 + i then f (j + 1) else f j
def mm (f : Nat → Int32) : Nat := (f 7).toNatClampNeg
def comC (f : Nat → Int32) (r : Nat) : Nat → Int32 := up (up (if mm f < 8 then cmG f r else shA (cmG f r) 7) (8 + min 7 (mm f)) (f (48 + 9 * r + 2))) 7 (f 7 + 1)
theorem c_comes {r m : Nat} (w : MW mo h) (hr : r < 24) (h7 : f 7 = nI m) (hm : m < 1000) : CV l x mX8_comes 1 0 0 [.ref mo, .int (nI r)] (NW mo h f) (fun h' => h' = NW mo h (comC f r)) := by
  have w2 := w.row 2 2 312 (by decide)
  have i7 : vp_in 7 (hK h (mo + 2)).2 := by rw [w2.2.2]; exact vp_in_nI (n := 7) (by decide) (by decide)
  have em : mm f = m := by unfold mm; rw [h7, nI_clamp (by omega)]
  have e8 : ∀ k : Nat, k < 2000 → (8 : Int32) + (if nI k < 7 then nI k else 7) = nI (8 + min 7 k) := by
    intro k hk
    show nI 8 + (if nI k < nI 7 then nI k else nI 7) = _
    by_cases e : k < 7
    · rw [if_pos (nI_lt e (by omega)), nI_add, show min 7 k = k by omega]
    · rw [if_neg (nI_nlt (by omega) (by omega)), nI_add, show min 7 k = 7 by omega]
  have iM : vp_in (nI (8 + min 7 m)) (hK h (mo + 2)).2 := by rw [w2.2.2]; exact vp_in_nI (by omega) (by decide)
  refine Cm.of (by decide) (Nat.le_of_ble_eq_true rfl) (vX8_comes_0 ⟨w.1, _, c_put (k := 4) w hr (by decide), ?_⟩)
  rintro _ rfl
  refine ⟨w.1, _, c_of (k := 2) w hr (by decide), ?_⟩
  rintro _ _ ⟨rfl, rfl⟩
  refine ⟨w.1, _, c_put (k := 5) w hr (by decide), ?_⟩
  rintro _ rfl
  have e2 : up f (48 + 9 * r + 4) 1 (48 + 9 * r + 2) = f (48 + 9 * r + 2) := up_ne (by omega)
  have ecm : up (up f (48 + 9 * r + 4) 1) (48 + 9 * r + 5) (f (48 + 9 * r + 2)) = cmG f r := rfl
  rw [e2, ecm]
  have g7 : ∀ g : Nat → Int32, hI (NW mo h g) (mo + 2) (Int32.toNatClampNeg 7) = g 7 := fun g => nowI 7
  have c7 : cmG f r 7 = nI m := by unfold cmG; rw [up_ne (by omega), up_ne (by omega)]; exact h7
  have last : ∀ g : Nat → Int32, g 7 = nI m → g (48 + 9 * r + 2) = f (48 + 9 * r + 2) → comC f r = up (up g (8 + min 7 m) (f (48 + 9 * r + 2))) 7 (nI m + 1) → (sI (sI (NW mo h g) (mo + 2) (8 + (if nI m < 7 then nI m else 7) : Int32).toNatClampNeg (g (48 + 9 * r + 2))) (mo + 2) (Int32.toNatClampNeg 7) (hI (sI (NW mo h g) (mo + 2) (8 + (if nI m < 7 then nI m else 7) : Int32).toNatClampNeg (g (48 + 9 * r + 2))) (mo + 2) (Int32.toNatClampNeg 7) + 1)) = NW mo h (comC f r) := by
    intro g q1 q2 q3
    rw [e8 m (by omega), nI_clamp (by omega), sI_rws, g7, sI_rws, up_ne (show (7 : Nat) ≠ 8 + min 7 m by omega), q1, q2, q3]
    rfl
  refine ⟨w.1, mo + 2, w2.1, w2.2.1, i7, ?_⟩
  rw [g7, c7]
  have c2 : cmG f r (48 + 9 * r + 2) = f (48 + 9 * r + 2) := by unfold cmG; rw [up_ne (by omega), up_ne (by omega)]
  refine ⟨fun e => ⟨i7, _, c_of (f := cmG f r) (k := 2) w hr (by decide), ?_⟩, fun e => ?_⟩
  · rintro _ _ ⟨rfl, rfl⟩
    have hm8 : m < 8 := by
      rcases Nat.lt_or_ge m 8 with q | q
      · exact q
      · exact absurd e (nI_nlt (b := 8) q (by omega))
    refine ⟨w2.2.1, ?_, w.1, mo + 2, w2.1, w2.2.1, i7, i7, rfl, ?_⟩
    · rw [e8 m (by omega)]; exact iM
    · exact last (cmG f r) c7 c2 (by unfold comC; rw [em, if_pos hm8, h7])
  · have hm8 : 8 ≤ m := by
      rcases Nat.lt_or_ge m 8 with q | q
      · exact absurd (nI_lt (b := 8) q (by omega)) e
      · exact q
    have loop : ∀ (j i : Nat), i + j = 7 → Gm l x mX8_comes 1 33 [(0, .ref mo), (1, .int (nI r)), (2, .int (nI (i + 1)))] [] (NW mo h (shA (cmG f r) i)) 0 0 (hN (NW mo h f)) (fun v h' => v = none ∧ h' = NW mo h (comC f r)) (fun _ _ => False) := by
      intro j
      induction j with
      | zero =>
        intro i hi
        obtain rfl : i = 7 := by omega
        have s7 : shA (cmG f r) 7 7 = nI m := (if_neg (by omega)).trans c7
        have s2 : shA (cmG f r) 7 (48 + 9 * r + 2) = f (48 + 9 * r + 2) := (if_neg (by omega)).trans c2
        refine vX8_comes_33 ⟨fun _ => ⟨w.1, mo + 2, w2.1, w2.2.1, i7, _, c_of (f := shA (cmG f r) 7) (k := 2) w hr (by decide), ?_⟩, fun e => absurd (by decide) e⟩
        rintro _ _ ⟨rfl, rfl⟩
        rw [g7, s7]
        refine ⟨w2.2.1, ?_, w.1, mo + 2, w2.1, w2.2.1, i7, i7, rfl, ?_⟩
        · rw [e8 m (by omega)]; exact iM
        · exact last (shA (cmG f r) 7) s7 s2 (by unfold comC; rw [em, if_neg (by omega), h7])
      | succ j ih =>
        intro i hi
        have h9 := ih (i + 1) (by omega)
        refine vX8_comes_33 ⟨fun e => absurd e (nI_ge (b := 8) (by omega) (by decide)), fun _ => ⟨w.1, mo + 2, w2.1, ?_⟩⟩
        have ea : (8 : Int32) + nI (i + 1) = nI (9 + i) := by
          show nI 8 + _ = _
          rw [nI_add, show 8 + (i + 1) = 9 + i by omega]
        have eb : nI (9 + i) - 1 = nI (8 + i) := by rw [show 9 + i = 8 + i + 1 by omega, nI_pred]
        rw [ea, eb, nI_clamp (by omega), nI_clamp (by omega), nowI, sI_rws, nI_1]
        refine ⟨w2.2.1, ?_, ?_, ?_⟩
        · show vp_in _ (hK h (mo + 2)).2
          rw [w2.2.2]; exact vp_in_nI (by omega) (by decide)
        · show vp_in _ (hK h (mo + 2)).2
          rw [w2.2.2]; exact vp_in_nI (by omega) (by decide)
        · have es : up (shA (cmG f r) i) (8 + i) (shA (cmG f r) i (9 + i)) = shA (cmG f r) (i + 1) := by
            funext q
            have e9 : shA (cmG f r) i (9 + i) = cmG f r (9 + i) := if_neg (by omega)
            rw [e9]
            unfold up shA
            by_cases q1 : q = 8 + i
            · rw [if_pos q1, if_pos (by omega), q1, show 8 + i + 1 = 9 + i by omega]
            · rw [if_neg q1]
              by_cases q2 : 8 ≤ q ∧ q < 8 + i
              · rw [if_pos q2, if_pos (by omega)]
              · rw [if_neg q2, if_neg (by omega)]
          rw [es]
          exact h9
    have h9 := loop 7 0 rfl
    have e0 : shA (cmG f r) 0 = cmG f r := funext fun q => if_neg (by omega)
    rw [e0] at h9
    exact h9
end Ref11
