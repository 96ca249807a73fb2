/-! THE REFERENCE: runs anew, with something changed -/
section Anew2
variable {l : Launch} {x : CX} {mo nc nf nr m : Nat} {g : PH} {f F t ct rt : Nat → Int32}
theorem nn_of {v : Int32} {w : Nat} (e : v = nI w) (hw : w < 2 ^ 31) : ¬ v = -1 := fun q => by
  have e2 := congrArg Int32.toInt (e.symm.trans q)
  rw [nI_toInt hw] at e2
  exact absurd e2 (by rw [show (-1 : Int32).toInt = -1 from by decide]; omega)
theorem lt_of0 {v : Int32} {w : Nat} (e : v = nI w) (hw : w < 2 ^ 31) : (-1 : Int32) < v := by
  rw [e, Int32.lt_iff_toInt_lt, nI_toInt hw, show (-1 : Int32).toInt = -1 from by decide]
  omega
theorem r_putCar {c k : Nat} {v : Int32} (w : MW mo g) (q : NR mo g f) (hc : c < 4) (hk : k < 8) : CV l x mX8_putCar 0 0 0 [.ref mo, .int (nI c), .int (nI k), .int v] g (fun h' => SB [2] mo g h' ∧ NR mo h' (up f (16 + 8 * c + k) v)) := by
  refine q.lift w (Cm.mono (c_putCar w hc hk) ?_)
  rintro _ h' ⟨e, rfl⟩
  exact ⟨e, SB.nw _ (by decide), NR.nw⟩
theorem r_put {c k : Nat} {v : Int32} (w : MW mo g) (q : NR mo g f) (hc : c < 24) (hk : k < 9) : CV l x mX8_put 0 0 0 [.ref mo, .int (nI c), .int (nI k), .int v] g (fun h' => SB [2] mo g h' ∧ NR mo h' (up f (48 + 9 * c + k) v)) := by
  refine q.lift w (Cm.mono (c_put w hc hk) ?_)
  rintro _ h' ⟨e, rfl⟩
  exact ⟨e, SB.nw _ (by decide), NR.nw⟩
/-- the row of a run anew in which all cars hold H -/
def rmP (t ct rt : Nat → Int32) (nc nf nr : Nat) (p y : Int32) (H : Nat) : Int32 := run t ct nc nf nr (hdA (anF t ct rt nc nr p y) H nc) 5
theorem hdA_ab {f : Nat → Int32} {H : Nat} {j : Nat} (hj : ∀ c, j ≠ 16 + 8 * c + 7) : ∀ c, hdA f H c j = f j
  | 0 => rfl
  | c + 1 => by rw [hdA, up_ne (hj c)]; exact hdA_ab hj c
theorem New_hd {p y : Int32} {H : Nat} (T : TD t ct rt nc nf nr) (hp : p = 0 ∨ p = 1 ∨ p = 2) (h1 : 1 ≤ H) (h6 : H ≤ 6) : ∀ c, c ≤ nc → New ct nc nf nr (hdA (anF t ct rt nc nr p y) H c)
  | 0, _ => New_an T hp
  | c + 1, hc => by
    have N := New_hd (y := y) T hp h1 h6 c (by omega)
    have e3 : hdA (anF t ct rt nc nr p y) H c (16 + 8 * c + 3) = 0 := by
      rw [hdA_ab (by omega)]
      exact an_c (k := 3) (by omega) (by decide)
    refine ⟨N.1.hld (by omega) e3 h1 h6, fun r hr => ?_⟩
    have := T.c4
    rw [hdA, up_ne (by omega)]
    exact N.2 r hr
theorem r_room (w : RX mo t ct rt g) (q : NR mo g f) (T : TD t ct rt nc nf nr) (hp : f 2 = 0 ∨ f 2 = 1 ∨ f 2 = 2) : CI l x mX8_room 12 0 0 [.ref mo] g (fun v h' => v = rmA (rmP t ct rt nc nf nr (f 2) (f 3)) 6 1 ∧ SB [2, 11, 12] mo g h' ∧ NR mo h' f) := by
  have hC := T.c4
  have loop : ∀ (j H : Nat) (h : PH), H + j = 7 → 1 ≤ H → SB [2, 11, 12] mo g h → NR mo h f → Gm l x mX8_room 12 2 [(0, .ref mo), (1, .int (nI H))] [] h 0 0 (hN g) (fun v h' => ∃ r, v = some (.int r) ∧ r = rmA (rmP t ct rt nc nf nr (f 2) (f 3)) j H ∧ SB [2, 11, 12] mo g h' ∧ NR mo h' f) (fun _ _ => False) := by
    intro j
    induction j with
    | zero =>
      intro H h hH h1 sh nh
      obtain rfl : H = 7 := by omega
      exact vX8_room_2 ⟨fun _ => ⟨_, rfl, rfl, sh, nh⟩, fun e => absurd (by decide) e⟩
    | succ j ih =>
      intro H h hH h1 sh nh
      have wh := w.sb sh (by decide) (by decide) (by decide)
      have w2 := wh.1.1.row 2 2 312 (by decide)
      refine vX8_room_2 ⟨fun e => absurd e (nI_nlt (a := 6) (b := H) (by omega) (by decide)), fun _ => ⟨wh.1.1.1, mo + 2, w2.1, w2.2.1, by rw [w2.2.2]; exact vp_in_nI (n := 2) (by decide) (by decide), by rw [w2.2.2]; exact vp_in_nI (n := 3) (by decide) (by decide), ?_⟩⟩
      rw [show hI h (mo + 2) (Int32.toNatClampNeg 3) = f 3 from nh.at 3 (by decide), show hI h (mo + 2) (Int32.toNatClampNeg 2) = f 2 from nh.at 2 (by decide)]
      refine ⟨_, r_anewBegins wh nh T.tk.2 T.c4 T.t2 T.r20, ?_⟩
      rintro h9 ⟨s9, n9, e9⟩
      have inner : ∀ (i c : Nat) (h' : PH), c + i = nc → SB [2, 11, 12] mo g h' → NR mo h' (hdA (anF t ct rt nc nr (f 2) (f 3)) H c) → (∀ j, j < 312 → hI h' (mo + 12) j = f j) → Gm l x mX8_room 12 26 [(0, .ref mo), (1, .int (nI H)), (2, .int (nI c))] [] h' 0 0 (hN g) (fun v h' => ∃ r, v = some (.int r) ∧ r = rmA (rmP t ct rt nc nf nr (f 2) (f 3)) (j + 1) H ∧ SB [2, 11, 12] mo g h' ∧ NR mo h' f) (fun _ _ => False) := by
        intro i
        induction i with
        | zero =>
          intro c h' hc s' n' e'
          obtain rfl : c = nc := by omega
          have w' := w.sb s' (by decide) (by decide) (by decide)
          have w4 := w'.1.1.row 4 4 7 (by decide)
          have t1 : hI h' (mo + 4) (Int32.toNatClampNeg 1) = nI c := (w'.1.2.1 1).trans T.tk.2
          have N := New_hd (y := f 3) T hp h1 (by omega : H ≤ 6) c (Nat.le_refl _)
          refine vX8_room_26 ⟨w'.1.1.1, mo + 4, w4.1, w4.2.1, by rw [w4.2.2]; exact vp_in_nI (n := 1) (by decide) (by decide), fun _ => ⟨_, r_ticks (n := 200) w'.1 n' T.tk N.1 (by decide), ?_⟩, fun e => absurd ?_ e⟩
          · rintro h13 ⟨s13, n13⟩
            have w13 := w'.sb s13 (by decide) (by decide) (by decide)
            have v2 := w13.1.1.row 2 2 312 (by decide)
            have v23 := w13.1.1.row 23 12 312 (by decide)
            refine ⟨w13.1.1.1, mo + 2, v2.1, v2.2.1, by rw [v2.2.2]; exact vp_in_nI (n := 5) (by decide) (by decide), mo + 12, v23.1, _, r_back (f := f) w13.1.1 (fun j hj => ?_), ?_⟩
            · rw [s13.rowE (by decide)]
              exact e' j hj
            rintro h19 ⟨s19, n19⟩
            have sf : SB [2, 11, 12] mo g h19 := (s'.trans (s13.mono (by decide))).trans (s19.mono (by decide))
            rw [show hI h13 (mo + 2) (Int32.toNatClampNeg 5) = rmP t ct rt c nf nr (f 2) (f 3) H from n13.at 5 (by decide)]
            refine ⟨fun e => ?_, fun e => ⟨_, rfl, (if_pos e).symm, sf, n19⟩⟩
            rw [nI_1]
            refine Gm.mono ?_ (ih (H + 1) h19 (by omega) (by omega) sf n19)
            rintro v h'' ⟨r, e1, e2, e3⟩
            exact ⟨r, e1, e2.trans (if_neg e).symm, e3⟩
          · rw [t1]
            exact nI_le (Nat.le_refl _) (by omega)
        | succ i ih2 =>
          intro c h' hc s' n' e'
          have w' := w.sb s' (by decide) (by decide) (by decide)
          have w4 := w'.1.1.row 4 4 7 (by decide)
          have t1 : hI h' (mo + 4) (Int32.toNatClampNeg 1) = nI nc := (w'.1.2.1 1).trans T.tk.2
          refine vX8_room_26 ⟨w'.1.1.1, mo + 4, w4.1, w4.2.1, by rw [w4.2.2]; exact vp_in_nI (n := 1) (by decide) (by decide), fun e => absurd e ?_, fun _ => ⟨_, r_putCar (k := 7) w'.1.1 n' (by omega) (by decide), ?_⟩⟩
          · rw [t1]
            exact nI_ge (by omega) (by omega)
          · rintro h23 ⟨s23, n23⟩
            rw [nI_1]
            exact ih2 (c + 1) h23 (by omega) (s'.trans (s23.mono (by decide))) n23 (fun j hj => by rw [s23.rowE (by decide)]; exact e' j hj)
      exact inner nc 0 h9 (by omega) (sh.trans (s9.mono (by decide))) n9 e9
  exact Cm.of (by decide) (Nat.le_of_ble_eq_true rfl) (vX8_room_0 (loop 6 1 g rfl (Nat.le_refl _) (SB.refl _ _ _) q))
/-- the waits of a run anew without the car c -/
def mcP (t ct rt : Nat → Int32) (nc nf nr : Nat) (p y : Int32) (c : Nat) : Int32 := wtdA (run t ct nc nf nr (up (anF t ct rt nc nr p y) (16 + 8 * c + 4) 0)) nr
theorem New.up {k : Nat} {v : Int32} (N : New ct nc nf nr F) (W : Row ct nc nf nr (up F k v)) (hk : ∀ r, r < 24 → k ≠ 48 + 9 * r + 6) : New ct nc nf nr (up F k v) :=
  ⟨W, fun r hr => by have := W.r24; rw [up_ne (Ne.symm (hk r (by omega)))]; exact N.2 r hr⟩
theorem r_missed (w : RX mo t ct rt g) (q : NR mo g f) (T : TD t ct rt nc nf nr) (hp : f 2 = 0 ∨ f 2 = 1 ∨ f 2 = 2) : CI l x mX8_missed 13 0 0 [.ref mo] g (fun v h' => v = (msA (mcP t ct rt nc nf nr (f 2) (f 3)) nc).1 ∧ SB [2, 11, 12] mo g h' ∧ NR mo h' f) := by
  have hC := T.c4
  have loop : ∀ (j c : Nat) (h : PH), c + j = nc → SB [2, 11, 12] mo g h → NR mo h f → Gm l x mX8_missed 13 6 [(0, .ref mo), (1, .int (msA (mcP t ct rt nc nf nr (f 2) (f 3)) c).1), (2, .int (msA (mcP t ct rt nc nf nr (f 2) (f 3)) c).2), (3, .int (nI c))] [] h 0 0 (hN g) (fun v h' => ∃ r, v = some (.int r) ∧ r = (msA (mcP t ct rt nc nf nr (f 2) (f 3)) nc).1 ∧ SB [2, 11, 12] mo g h' ∧ NR mo h' f) (fun _ _ => False) := by
    intro j
    induction j with
    | zero =>
      intro c h hc sh nh
      obtain rfl : c = nc := by omega
      have wh := w.sb sh (by decide) (by decide) (by decide)
      have w4 := wh.1.1.row 4 4 7 (by decide)
      refine vX8_missed_6 ⟨wh.1.1.1, mo + 4, w4.1, w4.2.1, by rw [w4.2.2]; exact vp_in_nI (n := 1) (by decide) (by decide), fun _ => ⟨_, rfl, rfl, sh, nh⟩, fun e => absurd ?_ e⟩
      rw [show hI h (mo + 4) (Int32.toNatClampNeg 1) = nI c from (wh.1.2.1 1).trans T.tk.2]
      exact nI_le (Nat.le_refl _) (by omega)
    | succ j ih =>
      intro c h hc sh nh
      have wh := w.sb sh (by decide) (by decide) (by decide)
      have w4 := wh.1.1.row 4 4 7 (by decide)
      have w2 := wh.1.1.row 2 2 312 (by decide)
      refine vX8_missed_6 ⟨wh.1.1.1, mo + 4, w4.1, w4.2.1, by rw [w4.2.2]; exact vp_in_nI (n := 1) (by decide) (by decide), fun e => absurd e ?_, fun _ => ⟨mo + 2, w2.1, w2.2.1, by rw [w2.2.2]; exact vp_in_nI (n := 2) (by decide) (by decide), by rw [w2.2.2]; exact vp_in_nI (n := 3) (by decide) (by decide), ?_⟩⟩
      · rw [show hI h (mo + 4) (Int32.toNatClampNeg 1) = nI nc from (wh.1.2.1 1).trans T.tk.2]
        exact nI_ge (by omega) (by omega)
      rw [show hI h (mo + 2) (Int32.toNatClampNeg 3) = f 3 from nh.at 3 (by decide), show hI h (mo + 2) (Int32.toNatClampNeg 2) = f 2 from nh.at 2 (by decide)]
      refine ⟨_, r_anewBegins wh nh T.tk.2 T.c4 T.t2 T.r20, ?_⟩
      rintro h9 ⟨s9, n9, e9⟩
      have w9 := wh.sb s9 (by decide) (by decide) (by decide)
      refine ⟨w9.1.1.1, _, r_putCar (k := 4) w9.1.1 n9 (by omega) (by decide), ?_⟩
      rintro h18 ⟨s18, n18⟩
      have w18 := w9.sb s18 (by decide) (by decide) (by decide)
      refine ⟨w18.1.1.1, _, r_anewWaited (f := f) w18 n18 T.tk ((Row_an T hp).inn (by omega) (Or.inl rfl)) (fun j hj => by rw [s18.rowE (by decide)]; exact e9 j hj), ?_⟩
      rintro _ h22 ⟨rfl, s22, n22⟩
      have h1 := ih (c + 1) h22 (by omega) (((sh.trans (s9.mono (by decide))).trans (s18.mono (by decide))).trans (s22.mono (by decide))) n22
      rw [← nI_1] at h1
      rw [show wtdA (ticksC t ct nr nf nc (up (anF t ct rt nc nr (f 2) (f 3)) (16 + 8 * c + 4) 0) 200) nr = mcP t ct rt nc nf nr (f 2) (f 3) c from rfl]
      rw [msA] at h1
      by_cases e : (msA (mcP t ct rt nc nf nr (f 2) (f 3)) c).2 < mcP t ct rt nc nf nr (f 2) (f 3) c
      · rw [if_pos e] at h1
        rw [if_pos e, if_pos e]
        exact h1
      · rw [if_neg e] at h1
        rw [if_neg e, if_neg e]
        exact h1
  exact Cm.of (by decide) (Nat.le_of_ble_eq_true rfl) (vX8_missed_0 (loop nc 0 g (by omega) (SB.refl _ _ _) q))
/-- when a rider is done in a run anew, its time being n greater -/
def eaP (t ct rt : Nat → Int32) (nc nf nr : Nat) (p y : Int32) (r : Nat) (n : Int32) : Int32 := run t ct nc nf nr (up (anF t ct rt nc nr p y) (48 + 9 * r + 1) (rt (4 * r + 1) + n)) (48 + 9 * r + 7)
theorem r_endsAnew {r : Nat} {n : Int32} (w : RX mo t ct rt g) (q : NR mo g f) (T : TD t ct rt nc nf nr) (hp : f 2 = 0 ∨ f 2 = 1 ∨ f 2 = 2) (hr : r < nr) : CI l x mX8_endsAnew 12 0 0 [.ref mo, .int (nI r), .int n] g (fun v h' => v = eaP t ct rt nc nf nr (f 2) (f 3) r n ∧ SB [2, 11, 12] mo g h' ∧ NR mo h' f) := by
  have h20 := T.r20
  have w2 := w.1.1.row 2 2 312 (by decide)
  refine Cm.of (by decide) (Nat.le_of_ble_eq_true rfl) (vX8_endsAnew_0 ⟨w.1.1.1, mo + 2, w2.1, w2.2.1, by rw [w2.2.2]; exact vp_in_nI (n := 2) (by decide) (by decide), by rw [w2.2.2]; exact vp_in_nI (n := 3) (by decide) (by decide), ?_⟩)
  rw [show hI g (mo + 2) (Int32.toNatClampNeg 3) = f 3 from q.at 3 (by decide), show hI g (mo + 2) (Int32.toNatClampNeg 2) = f 2 from q.at 2 (by decide)]
  refine ⟨_, r_anewBegins w q T.tk.2 T.c4 T.t2 T.r20, ?_⟩
  rintro h9 ⟨s9, n9, e9⟩
  have w9 := w.sb s9 (by decide) (by decide) (by decide)
  refine ⟨w9.1.1.1, _, r_same w9.1.1 n9 (c_of (k := 1) w9.1.1 (by omega) (by decide)), ?_⟩
  rintro _ h13 ⟨rfl, s13, n13⟩
  have w13 := w9.sb s13 (by decide) (by decide) (by decide)
  rw [show anF t ct rt nc nr (f 2) (f 3) (48 + 9 * r + 1) = rt (4 * r + 1) from an_r (k := 1) T.c4 hr (by decide)]
  refine ⟨w13.1.1.1, _, r_put (k := 1) w13.1.1 n13 (by omega) (by decide), ?_⟩
  rintro h18 ⟨s18, n18⟩
  have w18 := w13.sb s18 (by decide) (by decide) (by decide)
  refine ⟨w18.1.1.1, _, r_ticks (n := 200) w18.1 n18 T.tk ((Row_an T hp).cms (by omega)) (by decide), ?_⟩
  rintro h22 ⟨s22, n22⟩
  have w22 := w18.sb s22 (by decide) (by decide) (by decide)
  refine ⟨w22.1.1.1, _, r_same w22.1.1 n22 (c_of (k := 7) w22.1.1 (by omega) (by decide)), ?_⟩
  rintro _ h26 ⟨rfl, s26, n26⟩
  have w26 := w22.sb s26 (by decide) (by decide) (by decide)
  refine ⟨w26.1.1.1, mo + 2, (w26.1.1.row 2 2 312 (by decide)).1, mo + 12, (w26.1.1.row 23 12 312 (by decide)).1, _, r_back (f := f) w26.1.1 (fun j hj => ?_), ?_⟩
  · rw [s26.rowE (by decide), s22.rowE (by decide), s18.rowE (by decide), s13.rowE (by decide)]
    exact e9 j hj
  rintro h35 ⟨s35, n35⟩
  exact ⟨_, rfl, rfl, (((((s9.mono (by decide)).trans (s13.mono (by decide))).trans (s18.mono (by decide))).trans (s22.mono (by decide))).trans (s26.mono (by decide))).trans (s35.mono (by decide)), n35⟩
end Anew2
