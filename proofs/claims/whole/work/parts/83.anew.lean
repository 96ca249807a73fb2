/-! THE REFERENCE: runs anew -/
/-- the row at the end of a run anew from F -/
abbrev run (t ct : Nat → Int32) (nc nf nr : Nat) (F : Nat → Int32) : Nat → Int32 := ticksC t ct nr nf nc F 200
/-- the place of the least among the first k -/
def bsA (w : Nat → Int32) : Nat → Nat
  | 0 => 0
  | k + 1 => if k = 0 then 0 else if w k < w (bsA w k) then k else bsA w k
theorem bsA_lt1 {w : Nat → Int32} : ∀ k, bsA w (k + 1) < k + 1
  | 0 => by show (0 : Nat) < 1; decide
  | k + 1 => by
    have := bsA_lt1 (w := w) k
    rw [bsA, if_neg (by omega)]
    split <;> omega
theorem bsA_lt' {w : Nat → Int32} (k : Nat) (h : 0 < k) : bsA w k < k := by
  obtain ⟨k', rfl⟩ : ∃ k', k = k' + 1 := ⟨k - 1, by omega⟩
  exact bsA_lt1 k'
def thA (w : Nat → UInt32) : Nat → Nat
  | 0 => 0
  | k + 1 => if k = 0 then 0 else if (w k).toNat < (w (thA w k)).toNat then k else thA w k
def rmA (P : Nat → Int32) : Nat → Nat → Int32
  | 0, _ => -1
  | k + 1, h => if P h = 0 then nI h else rmA P k (h + 1)
def hdA (f : Nat → Int32) (H : Nat) : Nat → (Nat → Int32)
  | 0 => f
  | c + 1 => up (hdA f H c) (16 + 8 * c + 7) (nI H)
def msA (w : Nat → Int32) : Nat → Int32 × Int32
  | 0 => (-1, -1)
  | k + 1 => if (msA w k).2 < w k then (nI k, w k) else msA w k
def hmA (w : Nat → Int32) : Nat → Int32 × Int32
  | 0 => (0, -1)
  | k + 1 => if (hmA w k).2 = -1 then (nI k, w k) else if w k < (hmA w k).2 then (nI k, w k) else hmA w k
def ltA (e : Nat → Int32) (b : Int32) : Nat → Int32
  | 0 => 0
  | k + 1 => if e (k + 1) = -1 then ltA e b k else if b < e (k + 1) then ltA e b k else nI (k + 1)
section Anew
variable {l : Launch} {x : CX} {mo nc nf nr m : Nat} {g : PH} {f F t ct rt : Nat → Int32}
/-- a row that begins anew: nobody waited yet -/
def New (ct : Nat → Int32) (nc nf nr : Nat) (F : Nat → Int32) : Prop := Row ct nc nf nr F ∧ ∀ r, r < nr → F (48 + 9 * r + 6) = 0
theorem New.w (N : New ct nc nf nr F) (n : Nat) (hn : n ≤ 200) : ∃ w, wtdA (ticksC t ct nr nf nc F n) nr = nI w ∧ w ≤ 4800 := by
  obtain ⟨w, h1, h2⟩ := wtd_b (t := t) (ct := ct) (nf := nf) (n := n) N.1.r24 N.1.c4 N.2 nr (Nat.le_refl _)
  have h3 := Nat.mul_le_mul N.1.r24 hn
  exact ⟨w, h1, by omega⟩
theorem New_an {p y : Int32} (T : TD t ct rt nc nf nr) (hp : p = 0 ∨ p = 1 ∨ p = 2) : New ct nc nf nr (anF t ct rt nc nr p y) :=
  ⟨Row_an T hp, fun r hr => an_r (k := 6) T.c4 hr (by decide)⟩
theorem p012 : ∀ p, p < 3 → (nI p = 0 ∨ nI p = 1 ∨ nI p = 2) := by decide +kernel
theorem NR.at (q : NR mo g f) (k : Nat) (hk : k < 312) : hI g (mo + 2) k = f k := q k hk
/-- the waits of the runs by each policy -/
def wtP (t ct rt : Nat → Int32) (nc nf nr : Nat) (y : Int32) (p : Nat) : Int32 := wtdA (run t ct nc nf nr (anF t ct rt nc nr (nI p) y)) nr
def wkP (t ct rt : Nat → Int32) (nc nf nr : Nat) (y : Int32) (p : Nat) : UInt32 := wrkA (run t ct nc nf nr (anF t ct rt nc nr (nI p) y)) nc
theorem r_best (w : RX mo t ct rt g) (q : NR mo g f) (T : TD t ct rt nc nf nr) : CI l x mX8_best 13 0 0 [.ref mo] g (fun v h' => v = nI (bsA (wtP t ct rt nc nf nr (f 3)) 3) ∧ SB [2, 11, 12] mo g h' ∧ NR mo h' f) := by
  have nn : ∀ p, p < 3 → ¬ wtP t ct rt nc nf nr (f 3) p = -1 := fun p hp => by
    obtain ⟨v, h1, h2⟩ := (New_an (y := f 3) T (p012 p hp)).w (t := t) 200 (Nat.le_refl _)
    unfold wtP
    rw [h1]
    intro e
    have e2 := congrArg Int32.toInt e
    rw [nI_toInt (by omega)] at e2
    exact absurd e2 (by rw [show (-1 : Int32).toInt = -1 from by decide]; omega)
  have loop : ∀ (j k : Nat) (h : PH), k + j = 3 → SB [2, 11, 12] mo g h → NR mo h f → Gm l x mX8_best 13 6 [(0, .ref mo), (1, .int (nI (bsA (wtP t ct rt nc nf nr (f 3)) k))), (2, .int (if k = 0 then -1 else wtP t ct rt nc nf nr (f 3) (bsA (wtP t ct rt nc nf nr (f 3)) k))), (3, .int (nI k))] [] h 0 0 (hN g) (fun v h' => ∃ r, v = some (.int r) ∧ r = nI (bsA (wtP t ct rt nc nf nr (f 3)) 3) ∧ SB [2, 11, 12] mo g h' ∧ NR mo h' f) (fun _ _ => False) := by
    intro j
    induction j with
    | zero =>
      intro k h hk sh nh
      obtain rfl : k = 3 := by omega
      exact vX8_best_6 ⟨fun _ => ⟨_, rfl, rfl, sh, nh⟩, fun e => absurd (by decide) e⟩
    | succ j ih =>
      intro k h hk sh nh
      have wh := w.sb sh (by decide) (by decide) (by decide)
      have w2 := wh.1.1.row 2 2 312 (by decide)
      refine vX8_best_6 ⟨fun e => absurd e (nI_ge (b := 3) (by omega) (by decide)), fun _ => ⟨wh.1.1.1, mo + 2, w2.1, w2.2.1, by rw [w2.2.2]; exact vp_in_nI (n := 3) (by decide) (by decide), ?_⟩⟩
      rw [show hI h (mo + 2) (Int32.toNatClampNeg 3) = f 3 from nh.at 3 (by decide)]
      refine ⟨_, r_anewBegins wh nh T.tk.2 T.c4 T.t2 T.r20, ?_⟩
      rintro h9 ⟨s9, n9, e9⟩
      have w9 := wh.sb s9 (by decide) (by decide) (by decide)
      refine ⟨w9.1.1.1, _, r_anewWaited w9 n9 T.tk (Row_an T (p012 k (by omega))) e9, ?_⟩
      rintro _ h13 ⟨rfl, s13, n13⟩
      have h1 := ih (k + 1) h13 (by omega) ((sh.trans (s9.mono (by decide))).trans (s13.mono (by decide))) n13
      rw [if_neg (show ¬ k + 1 = 0 by omega), ← nI_1] at h1
      rw [show wtdA (ticksC t ct nr nf nc (anF t ct rt nc nr (nI k) (f 3)) 200) nr = wtP t ct rt nc nf nr (f 3) k from rfl]
      by_cases hk0 : k = 0
      · subst hk0
        rw [if_pos rfl, if_pos rfl, if_pos rfl]
        exact h1
      · rw [if_neg hk0, if_neg (nn _ (by have := bsA_lt' (w := wtP t ct rt nc nf nr (f 3)) k (by omega); omega)), if_neg (nn _ (by have := bsA_lt' (w := wtP t ct rt nc nf nr (f 3)) k (by omega); omega))]
        rw [show bsA (wtP t ct rt nc nf nr (f 3)) (k + 1) = if wtP t ct rt nc nf nr (f 3) k < wtP t ct rt nc nf nr (f 3) (bsA (wtP t ct rt nc nf nr (f 3)) k) then k else bsA (wtP t ct rt nc nf nr (f 3)) k from if_neg hk0] at h1
        by_cases e : wtP t ct rt nc nf nr (f 3) k < wtP t ct rt nc nf nr (f 3) (bsA (wtP t ct rt nc nf nr (f 3)) k)
        · rw [if_pos e] at h1
          rw [if_pos e, if_pos e]
          exact h1
        · rw [if_neg e] at h1
          rw [if_neg e, if_neg e]
          exact h1
  exact Cm.of (by decide) (Nat.le_of_ble_eq_true rfl) (vX8_best_0 (loop 3 0 g rfl (SB.refl _ _ _) q))
theorem Row.wk (W : Row ct nc nf nr f) : ∀ c, c < nc → Fok (f (16 + 8 * c + 5)).toUInt32 := fun c hc => by obtain ⟨⟨m, I⟩, _⟩ := W; exact (I.cars c hc).wk
theorem wkP_ok {y : Int32} {p : Nat} (T : TD t ct rt nc nf nr) (hp : p < 3) : Fok (wkP t ct rt nc nf nr y p) := wrk_ok (((Row_an T (p012 p hp)).ticks T.tk.1 200).wk) nc (Nat.le_refl _)
theorem thA_lt' {w : Nat → UInt32} : ∀ k, thA w (k + 1) < k + 1
  | 0 => by show (0 : Nat) < 1; decide
  | k + 1 => by
    have := thA_lt' (w := w) k
    rw [thA, if_neg (by omega)]
    split <;> omega
theorem r_thrift (w : RX mo t ct rt g) (q : NR mo g f) (T : TD t ct rt nc nf nr) : CI l x mX8_thrift 12 0 0 [.ref mo] g (fun v h' => v = nI (thA (wkP t ct rt nc nf nr (f 3)) 3) ∧ SB [2, 11, 12] mo g h' ∧ NR mo h' f) := by
  have loop : ∀ (j k : Nat) (h : PH), k + j = 3 → SB [2, 11, 12] mo g h → NR mo h f → Gm l x mX8_thrift 12 6 [(0, .ref mo), (1, .int (nI (thA (wkP t ct rt nc nf nr (f 3)) k))), (2, .float (if k = 0 then FP.fconst0 else wkP t ct rt nc nf nr (f 3) (thA (wkP t ct rt nc nf nr (f 3)) k))), (3, .int (nI k))] [] h 0 0 (hN g) (fun v h' => ∃ r, v = some (.int r) ∧ r = nI (thA (wkP t ct rt nc nf nr (f 3)) 3) ∧ SB [2, 11, 12] mo g h' ∧ NR mo h' f) (fun _ _ => False) := by
    intro j
    induction j with
    | zero =>
      intro k h hk sh nh
      obtain rfl : k = 3 := by omega
      exact vX8_thrift_6 ⟨fun _ => ⟨_, rfl, rfl, sh, nh⟩, fun e => absurd (by decide) e⟩
    | succ j ih =>
      intro k h hk sh nh
      have wh := w.sb sh (by decide) (by decide) (by decide)
      have w2 := wh.1.1.row 2 2 312 (by decide)
      refine vX8_thrift_6 ⟨fun e => absurd e (nI_ge (b := 3) (by omega) (by decide)), fun _ => ⟨wh.1.1.1, mo + 2, w2.1, w2.2.1, by rw [w2.2.2]; exact vp_in_nI (n := 3) (by decide) (by decide), ?_⟩⟩
      rw [show hI h (mo + 2) (Int32.toNatClampNeg 3) = f 3 from nh.at 3 (by decide)]
      refine ⟨_, r_anewBegins wh nh T.tk.2 T.c4 T.t2 T.r20, ?_⟩
      rintro h9 ⟨s9, n9, e9⟩
      have w9 := wh.sb s9 (by decide) (by decide) (by decide)
      have W9 := Row_an (y := f 3) T (p012 k (by omega))
      refine ⟨w9.1.1.1, _, r_ticks (n := 200) w9.1 n9 T.tk W9 (by decide), ?_⟩
      rintro h13 ⟨s13, n13⟩
      have w13 := w9.sb s13 (by decide) (by decide) (by decide)
      refine ⟨w13.1.1.1, _, n13.lift w13.1.1 (c_work w13.1 T.tk.2 T.c4 ((W9.ticks T.tk.1 200).wk)), ?_⟩
      rintro _ _ ⟨rfl, rfl⟩
      have s17 : SB [2] mo h13 (NW mo h13 (ticksC t ct nr nf nc (anF t ct rt nc nr (nI k) (f 3)) 200)) := SB.nw _ (by decide)
      have w17 := w13.sb s17 (by decide) (by decide) (by decide)
      refine ⟨w17.1.1.1, mo + 2, (w17.1.1.row 2 2 312 (by decide)).1, mo + 12, (w17.1.1.row 23 12 312 (by decide)).1, _, r_back (f := f) w17.1.1 (fun j hj => ?_), ?_⟩
      · rw [s17.rowE (by decide), s13.rowE (by decide)]
        exact e9 j hj
      rintro h26 ⟨s26, n26⟩
      have h1 := ih (k + 1) h26 (by omega) ((((sh.trans (s9.mono (by decide))).trans (s13.mono (by decide))).trans (s17.mono (by decide))).trans (s26.mono (by decide))) n26
      rw [if_neg (show ¬ k + 1 = 0 by omega), ← nI_1] at h1
      rw [show wrkA (ticksC t ct nr nf nc (anF t ct rt nc nr (nI k) (f 3)) 200) nc = wkP t ct rt nc nf nr (f 3) k from rfl]
      by_cases hk0 : k = 0
      · subst hk0
        rw [if_pos (show nI 0 ≤ 0 by decide), if_pos (show nI 0 ≤ 0 by decide)]
        exact h1
      · obtain ⟨k', rfl⟩ : ∃ k', k = k' + 1 := ⟨k - 1, by omega⟩
        have hlt := thA_lt' (w := wkP t ct rt nc nf nr (f 3)) k'
        have ec := cmp_l (o := .l) (wkP_ok (y := f 3) T (show k' + 1 < 3 by omega)) (wkP_ok (y := f 3) T (show thA (wkP t ct rt nc nf nr (f 3)) (k' + 1) < 3 by omega))
        rw [if_neg (nI_nle (by omega) (by omega)), if_neg (nI_nle (by omega) (by omega)), if_neg hk0, ec]
        rw [show thA (wkP t ct rt nc nf nr (f 3)) (k' + 1 + 1) = if (wkP t ct rt nc nf nr (f 3) (k' + 1)).toNat < (wkP t ct rt nc nf nr (f 3) (thA (wkP t ct rt nc nf nr (f 3)) (k' + 1))).toNat then k' + 1 else thA (wkP t ct rt nc nf nr (f 3)) (k' + 1) from if_neg hk0] at h1
        by_cases e : (wkP t ct rt nc nf nr (f 3) (k' + 1)).toNat < (wkP t ct rt nc nf nr (f 3) (thA (wkP t ct rt nc nf nr (f 3)) (k' + 1))).toNat
        · rw [if_pos e] at h1
          rw [if_pos e, if_pos (show (-1 : Int32) < 0 by decide), if_pos (show (-1 : Int32) < 0 by decide)]
          exact h1
        · rw [if_neg e] at h1
          have e2 : ¬ (if (wkP t ct rt nc nf nr (f 3) (k' + 1)).toNat = (wkP t ct rt nc nf nr (f 3) (thA (wkP t ct rt nc nf nr (f 3)) (k' + 1))).toNat then (0 : Int32) else 1) < 0 := by split <;> decide
          rw [if_neg e, if_neg e2, if_neg e2]
          exact h1
  exact Cm.of (by decide) (Nat.le_of_ble_eq_true rfl) (vX8_thrift_0 (loop 3 0 g rfl (SB.refl _ _ _) q))
end Anew
