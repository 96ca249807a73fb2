/-! THE REFERENCE, relational: contracts over any heap whose row 'now' is f as far as it goes -/
def NR (mo : Nat) (h : PH) (f : Nat → Int32) : Prop := ∀ j, j < 312 → hI h (mo + 2) j = f j
section Rel
variable {l : Launch} {x : CX} {mo nc nf nr m : Nat} {g : PH} {f F t ct rt : Nat → Int32}
theorem NR.eq (w : MW mo g) (q : NR mo g f) : hEq g (NW mo g f) := by
  have w2 := w.row 2 2 312 (by decide)
  have h1 := hEq_row (g := g) (a := mo + 2) (n := 312) (u := fun j => hI g (mo + 2) j) (v := f) (Prod.ext w2.2.1 w2.2.2) q
  rw [rw_self] at h1
  exact h1
theorem NR.lift {M : MD} {d mc ms : Nat} {a : List Value} {Q : Option Value → PH → Prop} {X : String → PH → Prop} (q : NR mo g f) (w : MW mo g) (C : Cm l x M d mc ms a (NW mo g f) Q X) : Cm l x M d mc ms a g Q X := Cm.ext (q.eq w) C
theorem NR.nw : NR mo (NW mo g f) f := fun j _ => hI_rws g (mo + 2) j f
theorem NR.sb {h' : PH} {S : List Nat} (q : NR mo g f) (a : SB S mo g h') (h2 : 2 ∉ S) : NR mo h' f := fun j hj => (a.2.2.2 (mo + 2) (fun s hs e => h2 (by rw [show 2 = s by omega]; exact hs)) j).trans (q j hj)
theorem SB.nw (S : List Nat) (hS : 2 ∈ S) : SB S mo g (NW mo g f) := SB.row g f hS
theorem SB.rowE {S : List Nat} {h' : PH} (a : SB S mo g h') {s : Nat} (hs : s ∉ S) (j : Nat) : hI h' (mo + s) j = hI g (mo + s) j := a.2.2.2 (mo + s) (fun s' hs' e => hs (by rw [show s = s' by omega]; exact hs')) j
theorem SB.fldE {S : List Nat} {h' : PH} (a : SB S mo g h') (hs : 0 ∉ S) (j : Nat) : hI h' mo j = hI g mo j := a.rowE (s := 0) hs j
theorem RX.sb {S : List Nat} {h' : PH} (w : RX mo t ct rt g) (a : SB S mo g h') (h4 : 4 ∉ S) (h6 : 6 ∉ S) (h8 : 8 ∉ S) : RX mo t ct rt h' := ⟨w.1.sb a h4 h6, fun k => (a.rowE h8 k).trans (w.2 k)⟩
theorem r_ticks {n : Nat} (w : RW mo t ct g) (q : NR mo g f) (hT : TK t nc nf) (W : Row ct nc nf nr f) (hn : n < 100000) : CV l x mX8_ticksNow 11 0 0 [.ref mo, .int (nI n)] g (fun h' => SB [2, 11] mo g h' ∧ NR mo h' (ticksC t ct nr nf nc f n)) := by
  obtain ⟨⟨m, I⟩, G, _⟩ := W
  refine q.lift w.1 (Cm.mono (c_ticksNow w hT I G hn) ?_)
  rintro v h' ⟨e, h2, s, rfl⟩
  exact ⟨e, (s.mono (by decide)).trans (SB.nw _ (by decide)), NR.nw⟩
theorem r_tick (w : RW mo t ct g) (q : NR mo g f) (hT : TK t nc nf) (W : Row ct nc nf nr f) : CV l x mX8_tick 10 0 0 [.ref mo] g (fun h' => SB [2, 11] mo g h' ∧ NR mo h' (tickC t ct nr nf nc f)) := by
  obtain ⟨⟨m, I⟩, G, _⟩ := W
  refine q.lift w.1 (Cm.mono (c_tick w hT I G) ?_)
  rintro v h' ⟨e, h2, s, rfl⟩
  exact ⟨e, (s.mono (by decide)).trans (SB.nw _ (by decide)), NR.nw⟩
/-- a contract that changes nothing -/
theorem r_same {M : MD} {d : Nat} {a : List Value} {v : Int32} (w : MW mo g) (q : NR mo g f) (C : CI l x M d 0 0 a (NW mo g f) (fun r h' => r = v ∧ h' = NW mo g f)) : CI l x M d 0 0 a g (fun r h' => r = v ∧ SB [2] mo g h' ∧ NR mo h' f) := by
  refine q.lift w (Cm.mono C ?_)
  rintro _ h' ⟨r, e, e1, rfl⟩
  exact ⟨r, e, e1, SB.nw _ (by decide), NR.nw⟩
theorem r_copy {a b n ka kb : Nat} (w : MW mo g) (ha : (ka, a, n) ∈ mtab) (hb : (kb, b, n) ∈ mtab) (hab : a ≠ b) (hn : n < 100000) : CV l x mX8_copyTo 0 0 0 [.ref (mo + a), .ref (mo + b)] g (fun h' => SB [a] mo g h' ∧ ∀ j, j < n → hI h' (mo + a) j = hI g (mo + b) j) := by
  have wa := w.row ka a n ha
  have wb := w.row kb b n hb
  refine Cm.mono (c_copyTo (g := g) (n := n) (n' := n) (Prod.ext wa.2.1 wa.2.2) (Prod.ext wb.2.1 wb.2.2) (Nat.le_refl _) hn (by omega)) ?_
  rintro v h' ⟨e, rfl⟩
  exact ⟨e, SB.row g _ (List.mem_singleton.mpr rfl), fun j hj => (hI_rws _ _ _ _).trans (if_pos hj)⟩
theorem r_back (w : MW mo g) (e : ∀ j, j < 312 → hI g (mo + 12) j = f j) : CV l x mX8_copyTo 0 0 0 [.ref (mo + 2), .ref (mo + 12)] g (fun h' => SB [2] mo g h' ∧ NR mo h' f) := by
  refine Cm.mono (r_copy (a := 2) (b := 12) (n := 312) (ka := 2) (kb := 23) w (by decide) (by decide) (by decide) (by decide)) ?_
  rintro v h' ⟨e1, e2, e3⟩
  exact ⟨e1, e2, fun j hj => (e3 j hj).trans (e j hj)⟩
theorem r_save (w : MW mo g) (q : NR mo g f) : CV l x mX8_copyTo 0 0 0 [.ref (mo + 12), .ref (mo + 2)] g (fun h' => SB [12] mo g h' ∧ ∀ j, j < 312 → hI h' (mo + 12) j = f j) := by
  refine Cm.mono (r_copy (a := 12) (b := 2) (n := 312) (ka := 23) (kb := 2) w (by decide) (by decide) (by decide) (by decide)) ?_
  rintro v h' ⟨e1, e2, e3⟩
  exact ⟨e1, e2, fun j hj => (e3 j hj).trans (q j hj)⟩
theorem r_begin (w : RX mo t ct rt g) (t1 : t 1 = nI nc) (hC : nc ≤ 4) (t2 : t 2 = nI nr) (hr : nr ≤ 20) : CV l x mX8_begin 1 0 0 [.ref mo] g (fun h' => SB [2] mo g h' ∧ NR mo h' (bgF t ct rt nc nr)) := by
  have h1 := c_begin (l := l) (x := x) (f := fun j => hI g (mo + 2) j) w t1 hC t2 hr
  have e : NW mo g (fun j => hI g (mo + 2) j) = g := rw_self g (mo + 2)
  rw [e] at h1
  refine Cm.mono h1 ?_
  rintro v h' ⟨e1, G, rfl, hG⟩
  exact ⟨e1, SB.nw _ (by decide), fun j hj => (hI_rws _ _ _ _).trans (hG j hj)⟩
/-- the row from which a run anew begins -/
def anF (t ct rt : Nat → Int32) (nc nr : Nat) (p y : Int32) : Nat → Int32 := up (up (bgF t ct rt nc nr) 2 p) 3 y
theorem r_anewBegins {p y : Int32} (w : RX mo t ct rt g) (q : NR mo g f) (t1 : t 1 = nI nc) (hC : nc ≤ 4) (t2 : t 2 = nI nr) (hr : nr ≤ 20) : CV l x mX8_anewBegins 2 0 0 [.ref mo, .int p, .int y] g (fun h' => SB [2, 12] mo g h' ∧ NR mo h' (anF t ct rt nc nr p y) ∧ ∀ j, j < 312 → hI h' (mo + 12) j = f j) := by
  have w1 := w.1.1
  have w2 := w1.row 2 2 312 (by decide)
  have w23 := w1.row 23 12 312 (by decide)
  refine Cm.of (by decide) (Nat.le_of_ble_eq_true rfl) (vX8_anewBegins_0 ⟨w1.1, mo + 12, w23.1, mo + 2, w2.1, _, r_save w1 q, ?_⟩)
  rintro h8 ⟨s8, e8⟩
  have x8 := w.sb s8 (by decide) (by decide) (by decide)
  refine ⟨x8.1.1.1, _, r_begin x8 t1 hC t2 hr, ?_⟩
  rintro h12 ⟨s12, n12⟩
  have x12 := x8.sb s12 (by decide) (by decide) (by decide)
  have v2 := x12.1.1.row 2 2 312 (by decide)
  have vi : ∀ k : Nat, k < 312 → vp_in (nI k) (hK h12 (mo + 2)).2 := fun k hk => by rw [v2.2.2]; exact vp_in_nI hk (by decide)
  have s9 : SB [2] mo h12 (sI (sI h12 (mo + 2) (Int32.toNatClampNeg 2) p) (mo + 2) (Int32.toNatClampNeg 3) y) := ⟨rfl, rfl, rfl, fun b hb j => (gIa _ _ _ _ (hb 2 (by decide))).trans (gIa _ _ _ _ (hb 2 (by decide)))⟩
  refine ⟨x12.1.1.1, mo + 2, v2.1, v2.2.1, vi 2 (by decide), vi 3 (by decide), rfl, ((s8.mono (by decide)).trans (s12.mono (by decide))).trans (s9.mono (by decide)), fun j hj => ?_, fun j hj => ?_⟩
  · unfold anF
    by_cases e3 : j = 3
    · rw [e3, up_eq]; exact gI _ _ _ _
    · rw [up_ne e3]
      refine (gIk _ _ _ e3).trans ?_
      by_cases e2 : j = 2
      · rw [e2, up_eq]; exact gI _ _ _ _
      · rw [up_ne e2]
        exact (gIk _ _ _ e2).trans (n12 j hj)
  · rw [s9.rowE (s := 12) (by decide), s12.rowE (s := 12) (by decide)]
    exact e8 j hj
theorem r_anewWaited (w : RX mo t ct rt g) (q : NR mo g F) (hT : TK t nc nf) (W : Row ct nc nf nr F) (e : ∀ j, j < 312 → hI g (mo + 12) j = f j) : CI l x mX8_anewWaited 12 0 0 [.ref mo] g (fun v h' => v = wtdA (ticksC t ct nr nf nc F 200) nr ∧ SB [2, 11] mo g h' ∧ NR mo h' f) := by
  have w1 := w.1.1
  obtain ⟨⟨m', I'⟩, _, _⟩ := W.ticks hT.1 200
  refine Cm.of (by decide) (Nat.le_of_ble_eq_true rfl) (vX8_anewWaited_0 ⟨w1.1, _, r_ticks (n := 200) w.1 q hT W (by decide), ?_⟩)
  rintro h4 ⟨s4, n4⟩
  have x4 := w.sb s4 (by decide) (by decide) (by decide)
  refine ⟨x4.1.1.1, _, r_same x4.1.1 n4 (c_waited x4.1.1 I'.h6 I'.hr), ?_⟩
  rintro _ h8 ⟨rfl, s8, n8⟩
  have x8 := x4.sb s8 (by decide) (by decide) (by decide)
  refine ⟨x8.1.1.1, mo + 2, (x8.1.1.row 2 2 312 (by decide)).1, mo + 12, (x8.1.1.row 23 12 312 (by decide)).1, _, r_back (f := f) x8.1.1 (fun j hj => ?_), ?_⟩
  · rw [s8.rowE (by decide), s4.rowE (by decide)]
    exact e j hj
  rintro h17 ⟨s17, n17⟩
  exact ⟨_, rfl, rfl, (s4.trans (s8.mono (by decide))).trans (s17.mono (by decide)), n17⟩
/-- v: how many ticks until all is quiet -/
def QV (t ct : Nat → Int32) (nr nf nc : Nat) (f : Nat → Int32) (v : Int32) : Prop := (∃ n, n ≤ 200 ∧ v = nI n ∧ QP t nc nr (ticksC t ct nr nf nc f n) ∧ ∀ i, i < n → ¬ QP t nc nr (ticksC t ct nr nf nc f i)) ∨ (v = -1 ∧ ∀ i, i ≤ 200 → ¬ QP t nc nr (ticksC t ct nr nf nc f i))
theorem QV.uniq {v v' : Int32} (a : QV t ct nr nf nc f v) (b : QV t ct nr nf nc f v') : v = v' := by
  rcases a with ⟨n, h1, rfl, h3, h4⟩ | ⟨rfl, h2⟩
  · rcases b with ⟨n', k1, rfl, k3, k4⟩ | ⟨rfl, k2⟩
    · rcases Nat.lt_trichotomy n n' with z | z | z
      · exact absurd h3 (k4 n z)
      · rw [z]
      · exact absurd k3 (h4 n' z)
    · exact absurd h3 (k2 n h1)
  · rcases b with ⟨n', k1, rfl, k3, k4⟩ | ⟨rfl, k2⟩
    · exact absurd k3 (h2 n' k1)
    · rfl
theorem r_quiet (w : RW mo t ct g) (q : NR mo g f) (hT : TK t nc nf) (W : Row ct nc nf nr f) : CI l x mX8_quiet 11 0 0 [.ref mo] g (fun v h' => QV t ct nr nf nc f v ∧ SB [2, 11, 12] mo g h' ∧ NR mo h' f) := by
  have w1 := w.1
  have fin : ∀ (h : PH) (v : Int32), RW mo t ct h → SB [2, 11, 12] mo g h → (∀ j, j < 312 → hI h (mo + 12) j = f j) → QV t ct nr nf nc f v → (hK h mo).1 = 8 ∧ ∃ b3, hR h mo 2 = some b3 ∧ ∃ b5, hR h mo 23 = some b5 ∧ ∃ q7 : PH → Prop, CV l x mX8_copyTo 0 0 0 [.ref b3, .ref b5] h q7 ∧ ∀ h9 : PH, q7 h9 → ∃ r, some (Value.int v) = some (.int r) ∧ QV t ct nr nf nc f r ∧ SB [2, 11, 12] mo g h9 ∧ NR mo h9 f := by
    intro h v wh sh eh hv
    refine ⟨wh.1.1, mo + 2, (wh.1.row 2 2 312 (by decide)).1, mo + 12, (wh.1.row 23 12 312 (by decide)).1, _, r_back (f := f) wh.1 eh, ?_⟩
    rintro h9 ⟨s9, n9⟩
    exact ⟨_, rfl, hv, sh.trans (s9.mono (by decide)), n9⟩
  have loop : ∀ (j n : Nat) (h : PH), n + j = 201 → RW mo t ct h → SB [2, 11, 12] mo g h → NR mo h (ticksC t ct nr nf nc f n) → (∀ j, j < 312 → hI h (mo + 12) j = f j) → (∀ i, i < n → ¬ QP t nc nr (ticksC t ct nr nf nc f i)) → Gm l x mX8_quiet 11 13 [(0, .ref mo), (1, .int (nI n))] [] h 0 0 (hN g) (fun v h' => ∃ r, v = some (.int r) ∧ QV t ct nr nf nc f r ∧ SB [2, 11, 12] mo g h' ∧ NR mo h' f) (fun _ _ => False) := by
    intro j
    induction j with
    | zero =>
      intro n h hn wh sh nh eh hq
      obtain rfl : n = 201 := by omega
      refine vX8_quiet_13 ⟨fun _ => ?_, fun e => absurd (by decide) e⟩
      rw [if_pos (by decide)]
      exact fin h (-1) wh sh eh (Or.inr ⟨rfl, fun i hi => hq i (by omega)⟩)
    | succ j ih =>
      intro n h hn wh sh nh eh hq
      have Wn := W.ticks hT.1 n
      obtain ⟨⟨m', I'⟩, _, _⟩ := Wn
      have e0 : ¬ (200 : Int32) < nI n := nI_nlt (a := 200) (b := n) (by omega) (by decide)
      refine vX8_quiet_13 ⟨fun e => absurd e e0, fun _ => ⟨wh.1.1, _, nh.lift wh.1 (c_isQuiet wh hT I'), ?_⟩⟩
      rintro r _ ⟨hr, rfl⟩
      have wh2 : RW mo t ct (NW mo h (ticksC t ct nr nf nc f n)) := wh.sb (SB.nw [2] (by decide)) (by decide) (by decide)
      have sh2 : SB [2, 11, 12] mo g (NW mo h (ticksC t ct nr nf nc f n)) := sh.trans (SB.nw _ (by decide))
      have eh2 : ∀ j, j < 312 → hI (NW mo h (ticksC t ct nr nf nc f n)) (mo + 12) j = f j := fun j hj => by rw [hI_rw, if_neg (by omega)]; exact eh j hj
      rw [if_neg e0]
      refine ⟨fun e => fin _ _ wh2 sh2 eh2 (Or.inl ⟨n, by omega, rfl, hr.mp e, hq⟩), fun e => ⟨wh.1.1, _, r_tick wh2 NR.nw hT (W.ticks hT.1 n), ?_⟩⟩
      rintro h29 ⟨s29, n29⟩
      rw [nI_1]
      refine ih (n + 1) h29 (by omega) (wh2.sb s29 (by decide) (by decide)) (sh2.trans (s29.mono (by decide))) n29 (fun j hj => ?_) (fun i hi => ?_)
      · rw [s29.rowE (by decide)]
        exact eh2 j hj
      · rcases Nat.lt_or_ge i n with z | z
        · exact hq i z
        · obtain rfl : i = n := by omega
          exact fun z => hr.mpr z e
  refine Cm.of (by decide) (Nat.le_of_ble_eq_true rfl) (vX8_quiet_0 ⟨w1.1, mo + 12, (w1.row 23 12 312 (by decide)).1, mo + 2, (w1.row 2 2 312 (by decide)).1, _, r_save w1 q, ?_⟩)
  rintro h8 ⟨s8, e8⟩
  exact loop 201 0 h8 rfl (w.sb s8 (by decide) (by decide)) (s8.mono (by decide)) (q.sb s8 (by decide)) e8 (fun i hi => absurd hi (Nat.not_lt_zero i))
end Rel
