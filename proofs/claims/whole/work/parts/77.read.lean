/-! READERS, on both sides -/
def mnyA (f : Nat → Int32) (v : Int32) : Nat → Int32
  | 0 => 0
  | r + 1 => mnyA f v r + (if f (48 + 9 * r + 4) = v then 1 else 0)
def wtdA (f : Nat → Int32) : Nat → Int32
  | 0 => 0
  | r + 1 => wtdA f r + f (48 + 9 * r + 6)
def wrkA (f : Nat → Int32) : Nat → UInt32
  | 0 => FP.fconst0
  | c + 1 => FP.fadd (wrkA f c) (f (16 + 8 * c + 5)).toUInt32
def latA (f : Nat → Int32) : Nat → Int32
  | 0 => -1
  | r + 1 => if latA f r < f (48 + 9 * r + 7) then f (48 + 9 * r + 7) else latA f r
def stpA (f : Nat → Int32) : Nat → Int32
  | 0 => 0
  | c + 1 => if f (16 + 8 * c + 2) ≤ 0 then stpA f c else stpA f c + 1
/-- the number of the rider that waited longest, and one more; 0: none -/
def wrsN (f : Nat → Int32) : Nat → Nat
  | 0 => 0
  | r + 1 => if wrsN f r = 0 then r + 1 else if f (48 + 9 * r + 6) ≤ f (48 + 9 * (wrsN f r - 1) + 6) then wrsN f r else r + 1
theorem wrsN_le (f : Nat → Int32) : ∀ r, wrsN f r ≤ r
  | 0 => Nat.le_refl _
  | r + 1 => by
    have ih := wrsN_le f r
    unfold wrsN
    split
    · omega
    · split <;> omega
theorem mny_cnt {f : Nat → Int32} {v : Int32} : ∀ n, mnyA f v n = nI (cnt f v n)
  | 0 => rfl
  | n + 1 => by
    unfold cnt
    rw [mnyA, mny_cnt n, fb_ct_succ]
    by_cases e : f (48 + 9 * n + 4) = v
    · rw [if_pos e, if_pos (decide_eq_true e), nI_1]; rfl
    · rw [if_neg e, if_neg (by rw [decide_eq_true_eq]; exact e), Int32.add_zero]; rfl
theorem Fok_0 : Fok FP.fconst0 := by show (FP.fconst0 : UInt32).toNat ≤ _; decide
theorem wrk_ok {f : Nat → Int32} {nc : Nat} (h : ∀ c, c < nc → Fok (f (16 + 8 * c + 5)).toUInt32) : ∀ c, c ≤ nc → Fok (wrkA f c)
  | 0, _ => Fok_0
  | c + 1, hc => fadd_ok (wrk_ok h c (by omega)) (h c (by omega))
theorem neg1 {k : Nat} (hk : k < 1000) : ¬ nI k = (-1 : Int32) := fun q => by
  have : (nI k).toInt = -1 := by rw [q]; decide
  rw [nI_toInt (by omega)] at this
  omega
section ReadK
variable {l : Launch} {x : CX} {h : PH} {o c nc nf nr m : Nat} {f t ct : Nat → Int32}
theorem k_howMany {v : Int32} (P : PO h o nr f) (h24 : nr ≤ 24) : CI l x mX1_howMany 0 0 0 [.ref o, .int v] h (fun r h' => r = mnyA f v nr ∧ h' = h) := by
  have S := P.1
  have loop : ∀ (j r : Nat), r + j = nr → Gm l x mX1_howMany 0 4 [(0, .ref o), (1, .int v), (2, .int (mnyA f v r)), (3, .int (nI r))] [] h 0 0 (hN h) (fun w h' => ∃ r, w = some (.int r) ∧ r = mnyA f v nr ∧ h' = h) (fun _ _ => False) := by
    intro j
    induction j with
    | zero =>
      intro r hj
      obtain rfl : r = nr := by omega
      refine vX1_howMany_4 ⟨S.k, fun _ => ⟨_, rfl, rfl, rfl⟩, fun e => absurd ?_ e⟩
      rw [P.2.1]
      exact nI_le (Nat.le_refl _) (by omega)
    | succ j ih =>
      intro r hj
      have pr := S.pr r (by omega)
      have ro := P.2.2 r (by omega)
      refine vX1_howMany_4 ⟨S.k, fun e => absurd e ?_, fun _ => ⟨o + 2, S.p, by rw [S.pk], ?_, o + 8 + r, ?_, pr.2, ?_⟩⟩
      · rw [P.2.1]
        exact nI_ge (by omega) (by omega)
      · rw [S.pk]; exact vp_in_nI (by omega) (by decide)
      · rw [nI_clamp (by omega)]; exact pr.1
      · have h9 := ih (r + 1) (by omega)
        rw [mnyA] at h9
        rw [ro.wh, nI_1]
        by_cases e : f (48 + 9 * r + 4) = v
        · rw [if_pos e] at h9 ⊢
          exact h9
        · rw [if_neg e, Int32.add_zero] at h9
          rw [if_neg e]
          exact h9
  exact Cm.of (by decide) (Nat.le_of_ble_eq_true rfl) (vX1_howMany_0 (loop nr 0 (by omega)))
theorem k_waitedInAll (P : PO h o nr f) (h24 : nr ≤ 24) : CI l x mX1_waitedInAll 0 0 0 [.ref o] h (fun r h' => r = wtdA f nr ∧ h' = h) := by
  have S := P.1
  have loop : ∀ (j r : Nat), r + j = nr → Gm l x mX1_waitedInAll 0 4 [(0, .ref o), (1, .int (wtdA f r)), (2, .int (nI r))] [] h 0 0 (hN h) (fun w h' => ∃ r, w = some (.int r) ∧ r = wtdA f nr ∧ h' = h) (fun _ _ => False) := by
    intro j
    induction j with
    | zero =>
      intro r hj
      obtain rfl : r = nr := by omega
      refine vX1_waitedInAll_4 ⟨S.k, fun _ => ⟨_, rfl, rfl, rfl⟩, fun e => absurd ?_ e⟩
      rw [P.2.1]
      exact nI_le (Nat.le_refl _) (by omega)
    | succ j ih =>
      intro r hj
      have pr := S.pr r (by omega)
      have ro := P.2.2 r (by omega)
      refine vX1_waitedInAll_4 ⟨S.k, fun e => absurd e ?_, fun _ => ⟨o + 2, S.p, by rw [S.pk], ?_, o + 8 + r, ?_, pr.2, ?_⟩⟩
      · rw [P.2.1]
        exact nI_ge (by omega) (by omega)
      · rw [S.pk]; exact vp_in_nI (by omega) (by decide)
      · rw [nI_clamp (by omega)]; exact pr.1
      · have h9 := ih (r + 1) (by omega)
        rw [ro.wt, nI_1]
        exact h9
  exact Cm.of (by decide) (Nat.le_of_ble_eq_true rfl) (vX1_waitedInAll_0 (loop nr 0 (by omega)))
theorem k_latestDone (P : PO h o nr f) (h24 : nr ≤ 24) : CI l x mX1_latestDone 1 0 0 [.ref o] h (fun r h' => r = latA f nr ∧ h' = h) := by
  have S := P.1
  have loop : ∀ (j r : Nat), r + j = nr → Gm l x mX1_latestDone 1 4 [(0, .ref o), (1, .int (latA f r)), (2, .int (nI r))] [] h 0 0 (hN h) (fun w h' => ∃ r, w = some (.int r) ∧ r = latA f nr ∧ h' = h) (fun _ _ => False) := by
    intro j
    induction j with
    | zero =>
      intro r hj
      obtain rfl : r = nr := by omega
      refine vX1_latestDone_4 ⟨S.k, fun _ => ⟨_, rfl, rfl, rfl⟩, fun e => absurd ?_ e⟩
      rw [P.2.1]
      exact nI_le (Nat.le_refl _) (by omega)
    | succ j ih =>
      intro r hj
      have pr := S.pr r (by omega)
      have ro := P.2.2 r (by omega)
      refine vX1_latestDone_4 ⟨S.k, fun e => absurd e ?_, fun _ => ⟨o + 2, S.p, by rw [S.pk], ?_, o + 8 + r, ?_, pr.2, ?_⟩⟩
      · rw [P.2.1]
        exact nI_ge (by omega) (by omega)
      · rw [S.pk]; exact vp_in_nI (by omega) (by decide)
      · rw [nI_clamp (by omega)]; exact pr.1
      · have h9 := ih (r + 1) (by omega)
        rw [ro.en, nI_1]
        exact h9
  exact Cm.of (by decide) (Nat.le_of_ble_eq_true rfl) (vX1_latestDone_0 (loop nr 0 (by omega)))
theorem k_worst (P : PO h o nr f) (h24 : nr ≤ 24) : CI l x mX1_worst 0 0 0 [.ref o] h (fun r h' => r = nI (wrsN f nr) - 1 ∧ h' = h) := by
  have S := P.1
  have loop : ∀ (j r : Nat), r + j = nr → Gm l x mX1_worst 0 4 [(0, .ref o), (1, .int (nI (wrsN f r) - 1)), (2, .int (nI r))] [] h 0 0 (hN h) (fun w h' => ∃ r, w = some (.int r) ∧ r = nI (wrsN f nr) - 1 ∧ h' = h) (fun _ _ => False) := by
    intro j
    induction j with
    | zero =>
      intro r hj
      obtain rfl : r = nr := by omega
      refine vX1_worst_4 ⟨S.k, fun _ => ⟨_, rfl, rfl, rfl⟩, fun e => absurd ?_ e⟩
      rw [P.2.1]
      exact nI_le (Nat.le_refl _) (by omega)
    | succ j ih =>
      intro r hj
      have pr := S.pr r (by omega)
      have ro := P.2.2 r (by omega)
      have le := wrsN_le f r
      have h9 := ih (r + 1) (by omega)
      rw [wrsN] at h9
      refine vX1_worst_4 ⟨S.k, fun e => absurd e ?_, fun _ => ?_⟩
      · rw [P.2.1]
        exact nI_ge (by omega) (by omega)
      cases hw : wrsN f r with
      | zero =>
        rw [hw, if_pos rfl, nI_pred] at h9
        refine ⟨fun _ => ?_, fun e => absurd (by decide) e⟩
        rw [nI_1]
        exact h9
      | succ w =>
        rw [hw] at le h9
        rw [if_neg (by omega)] at h9
        have pw := S.pr w (by omega)
        have rw' := P.2.2 w (by omega)
        rw [nI_pred]
        refine ⟨fun e => absurd e (neg1 (by omega)), fun _ => ⟨o + 2, S.p, by rw [S.pk], ?_, o + 8 + r, ?_, pr.2, ?_, o + 8 + w, ?_, pw.2, ?_⟩⟩
        · rw [S.pk]; exact vp_in_nI (by omega) (by decide)
        · rw [nI_clamp (by omega)]; exact pr.1
        · rw [S.pk]; exact vp_in_nI (by omega) (by decide)
        · rw [nI_clamp (by omega)]; exact pw.1
        · rw [ro.wt, rw'.wt, nI_1]
          rw [show w + 1 - 1 = w by omega] at h9
          by_cases e : f (48 + 9 * r + 6) ≤ f (48 + 9 * w + 6)
          · rw [if_pos e, nI_pred] at h9
            rw [if_pos e]
            exact h9
          · rw [if_neg e, nI_pred] at h9
            rw [if_neg e]
            exact h9
  exact Cm.of (by decide) (Nat.le_of_ble_eq_true rfl) (vX1_worst_0 (loop nr 0 (by omega)))
theorem k_passedInAll (R : BR h o t ct nc nf nr f) (hC : nc ≤ 4) : CI l x mX1_passedInAll 0 0 0 [.ref o] h (fun r h' => r = f 5 ∧ h' = h) := by
  have S := R.s
  have loop : ∀ (j c : Nat), c + j = nc → Gm l x mX1_passedInAll 0 4 [(0, .ref o), (1, .int (ps h o c)), (2, .int (nI c))] [] h 0 0 (hN h) (fun w h' => ∃ r, w = some (.int r) ∧ r = f 5 ∧ h' = h) (fun _ _ => False) := by
    intro j
    induction j with
    | zero =>
      intro c hj
      obtain rfl : c = nc := by omega
      refine vX1_passedInAll_4 ⟨S.k, fun _ => ⟨_, rfl, R.pa, rfl⟩, fun e => absurd ?_ e⟩
      rw [R.nc]
      exact nI_le (Nat.le_refl _) (by omega)
    | succ j ih =>
      intro c hj
      have lc := S.lc c (by omega)
      refine vX1_passedInAll_4 ⟨S.k, fun e => absurd e ?_, fun _ => ⟨o + 1, S.l, by rw [S.lk], ?_, o + 4 + c, ?_, lc.2, ?_⟩⟩
      · rw [R.nc]
        exact nI_ge (by omega) (by omega)
      · rw [S.lk]; exact vp_in_nI (by omega) (by decide)
      · rw [nI_clamp (by omega)]; exact lc.1
      · rw [nI_1]
        exact ih (c + 1) (by omega)
  exact Cm.of (by decide) (Nat.le_of_ble_eq_true rfl) (vX1_passedInAll_0 (loop nc 0 (by omega)))
theorem k_workInAll (R : BR h o t ct nc nf nr f) (hC : nc ≤ 4) (hw : ∀ c, c < nc → Fok (f (16 + 8 * c + 5)).toUInt32) : CF l x mX1_workInAll 0 0 0 [.ref o] h (fun r h' => r = wrkA f nc ∧ h' = h) := by
  have S := R.s
  have loop : ∀ (j c : Nat), c + j = nc → Gm l x mX1_workInAll 0 4 [(0, .ref o), (1, .float (wrkA f c)), (2, .int (nI c))] [] h 0 0 (hN h) (fun w h' => ∃ r, w = some (.float r) ∧ r = wrkA f nc ∧ h' = h) (fun _ _ => False) := by
    intro j
    induction j with
    | zero =>
      intro c hj
      obtain rfl : c = nc := by omega
      refine vX1_workInAll_4 ⟨S.k, fun _ => ⟨_, rfl, rfl, rfl⟩, fun e => absurd ?_ e⟩
      rw [R.nc]
      exact nI_le (Nat.le_refl _) (by omega)
    | succ j ih =>
      intro c hj
      have lc := S.lc c (by omega)
      have C := (R.ca c (by omega)).1
      refine vX1_workInAll_4 ⟨S.k, fun e => absurd e ?_, fun _ => ⟨o + 1, S.l, by rw [S.lk], ?_, o + 4 + c, ?_, lc.2, ?_⟩⟩
      · rw [R.nc]
        exact nI_ge (by omega) (by omega)
      · rw [S.lk]; exact vp_in_nI (by omega) (by decide)
      · rw [nI_clamp (by omega)]; exact lc.1
      · rw [nI_1, C.wk]
        exact ⟨Fok.n (wrk_ok hw (c + 1) (by omega)), ih (c + 1) (by omega)⟩
  exact Cm.of (by decide) (Nat.le_of_ble_eq_true rfl) (vX1_workInAll_0 (loop nc 0 (by omega)))
theorem k_stopped (R : BR h o t ct nc nf nr f) (hC : nc ≤ 4) : CI l x mX1_stopped 0 0 0 [.ref o] h (fun r h' => r = stpA f nc ∧ h' = h) := by
  have S := R.s
  have loop : ∀ (j c : Nat), c + j = nc → Gm l x mX1_stopped 0 4 [(0, .ref o), (1, .int (stpA f c)), (2, .int (nI c))] [] h 0 0 (hN h) (fun w h' => ∃ r, w = some (.int r) ∧ r = stpA f nc ∧ h' = h) (fun _ _ => False) := by
    intro j
    induction j with
    | zero =>
      intro c hj
      obtain rfl : c = nc := by omega
      refine vX1_stopped_4 ⟨S.k, fun _ => ⟨_, rfl, rfl, rfl⟩, fun e => absurd ?_ e⟩
      rw [R.nc]
      exact nI_le (Nat.le_refl _) (by omega)
    | succ j ih =>
      intro c hj
      have lc := S.lc c (by omega)
      have C := (R.ca c (by omega)).1
      refine vX1_stopped_4 ⟨S.k, fun e => absurd e ?_, fun _ => ⟨o + 1, S.l, by rw [S.lk], ?_, o + 4 + c, ?_, lc.2, ?_⟩⟩
      · rw [R.nc]
        exact nI_ge (by omega) (by omega)
      · rw [S.lk]; exact vp_in_nI (by omega) (by decide)
      · rw [nI_clamp (by omega)]; exact lc.1
      · rw [nI_1, C.dr]
        exact ih (c + 1) (by omega)
  exact Cm.of (by decide) (Nat.le_of_ble_eq_true rfl) (vX1_stopped_0 (loop nc 0 (by omega)))
end ReadK
section ReadR
variable {l : Launch} {x : CX} {mo nc nf nr m : Nat} {h : PH} {f t ct : Nat → Int32}
theorem c_many {v : Int32} (w : MW mo h) (h6 : f 6 = nI nr) (h24 : nr ≤ 24) : CI l x mX8_many 1 0 0 [.ref mo, .int v] (NW mo h f) (fun r h' => r = mnyA f v nr ∧ h' = NW mo h f) := by
  have w2 := w.row 2 2 312 (by decide)
  have i6 : vp_in 6 (hK h (mo + 2)).2 := by rw [w2.2.2]; exact vp_in_nI (n := 6) (by decide) (by decide)
  have loop : ∀ (j r : Nat), r + j = nr → Gm l x mX8_many 1 4 [(0, .ref mo), (1, .int v), (2, .int (mnyA f v r)), (3, .int (nI r))] [] (NW mo h f) 0 0 (hN (NW mo h f)) (fun w h' => ∃ r, w = some (.int r) ∧ r = mnyA f v nr ∧ h' = NW mo h f) (fun _ _ => False) := by
    intro j
    induction j with
    | zero =>
      intro r hj
      obtain rfl : r = nr := by omega
      refine vX8_many_4 ⟨w.1, mo + 2, w2.1, w2.2.1, i6, fun _ => ⟨_, rfl, rfl, rfl⟩, fun e => absurd ?_ e⟩
      rw [now6 h6]
      exact nI_le (Nat.le_refl _) (by omega)
    | succ j ih =>
      intro r hj
      refine vX8_many_4 ⟨w.1, mo + 2, w2.1, w2.2.1, i6, fun e => absurd e ?_, fun _ => ⟨_, c_of (k := 4) w (by omega) (by decide), ?_⟩⟩
      · rw [now6 h6]
        exact nI_ge (by omega) (by omega)
      · rintro _ _ ⟨rfl, rfl⟩
        rw [nI_1]
        exact ih (r + 1) (by omega)
  exact Cm.of (by decide) (Nat.le_of_ble_eq_true rfl) (vX8_many_0 (loop nr 0 (by omega)))
theorem c_waited (w : MW mo h) (h6 : f 6 = nI nr) (h24 : nr ≤ 24) : CI l x mX8_waited 1 0 0 [.ref mo] (NW mo h f) (fun r h' => r = wtdA f nr ∧ h' = NW mo h f) := by
  have w2 := w.row 2 2 312 (by decide)
  have i6 : vp_in 6 (hK h (mo + 2)).2 := by rw [w2.2.2]; exact vp_in_nI (n := 6) (by decide) (by decide)
  have loop : ∀ (j r : Nat), r + j = nr → Gm l x mX8_waited 1 4 [(0, .ref mo), (1, .int (wtdA f r)), (2, .int (nI r))] [] (NW mo h f) 0 0 (hN (NW mo h f)) (fun w h' => ∃ r, w = some (.int r) ∧ r = wtdA f nr ∧ h' = NW mo h f) (fun _ _ => False) := by
    intro j
    induction j with
    | zero =>
      intro r hj
      obtain rfl : r = nr := by omega
      refine vX8_waited_4 ⟨w.1, mo + 2, w2.1, w2.2.1, i6, fun _ => ⟨_, rfl, rfl, rfl⟩, fun e => absurd ?_ e⟩
      rw [now6 h6]
      exact nI_le (Nat.le_refl _) (by omega)
    | succ j ih =>
      intro r hj
      refine vX8_waited_4 ⟨w.1, mo + 2, w2.1, w2.2.1, i6, fun e => absurd e ?_, fun _ => ⟨_, c_of (k := 6) w (by omega) (by decide), ?_⟩⟩
      · rw [now6 h6]
        exact nI_ge (by omega) (by omega)
      · rintro _ _ ⟨rfl, rfl⟩
        rw [nI_1]
        exact ih (r + 1) (by omega)
  exact Cm.of (by decide) (Nat.le_of_ble_eq_true rfl) (vX8_waited_0 (loop nr 0 (by omega)))
theorem c_worst (w : MW mo h) (h6 : f 6 = nI nr) (h24 : nr ≤ 24) : CI l x mX8_worst 1 0 0 [.ref mo] (NW mo h f) (fun r h' => r = nI (wrsN f nr) - 1 ∧ h' = NW mo h f) := by
  have w2 := w.row 2 2 312 (by decide)
  have i6 : vp_in 6 (hK h (mo + 2)).2 := by rw [w2.2.2]; exact vp_in_nI (n := 6) (by decide) (by decide)
  have loop : ∀ (j r : Nat), r + j = nr → Gm l x mX8_worst 1 4 [(0, .ref mo), (1, .int (nI (wrsN f r) - 1)), (2, .int (nI r))] [] (NW mo h f) 0 0 (hN (NW mo h f)) (fun w h' => ∃ r, w = some (.int r) ∧ r = nI (wrsN f nr) - 1 ∧ h' = NW mo h f) (fun _ _ => False) := by
    intro j
    induction j with
    | zero =>
      intro r hj
      obtain rfl : r = nr := by omega
      refine vX8_worst_4 ⟨w.1, mo + 2, w2.1, w2.2.1, i6, fun _ => ⟨_, rfl, rfl, rfl⟩, fun e => absurd ?_ e⟩
      rw [now6 h6]
      exact nI_le (Nat.le_refl _) (by omega)
    | succ j ih =>
      intro r hj
      have le := wrsN_le f r
      have h9 := ih (r + 1) (by omega)
      rw [wrsN] at h9
      refine vX8_worst_4 ⟨w.1, mo + 2, w2.1, w2.2.1, i6, fun e => absurd e ?_, fun _ => ?_⟩
      · rw [now6 h6]
        exact nI_ge (by omega) (by omega)
      cases hw : wrsN f r with
      | zero =>
        rw [hw, if_pos rfl, nI_pred] at h9
        refine ⟨fun _ => ?_, fun e => absurd (by decide) e⟩
        rw [nI_1]
        exact h9
      | succ q =>
        rw [hw] at le h9
        rw [if_neg (by omega), show q + 1 - 1 = q by omega] at h9
        rw [nI_pred]
        refine ⟨fun e => absurd e (neg1 (by omega)), fun _ => ⟨_, c_of (k := 6) w (by omega) (by decide), ?_⟩⟩
        rintro _ _ ⟨rfl, rfl⟩
        refine ⟨w.1, _, c_of (k := 6) w (by omega) (by decide), ?_⟩
        rintro _ _ ⟨rfl, rfl⟩
        rw [nI_1]
        by_cases e : f (48 + 9 * r + 6) ≤ f (48 + 9 * q + 6)
        · rw [if_pos e, nI_pred] at h9
          rw [if_pos e]
          exact h9
        · rw [if_neg e, nI_pred] at h9
          rw [if_neg e]
          exact h9
  exact Cm.of (by decide) (Nat.le_of_ble_eq_true rfl) (vX8_worst_0 (loop nr 0 (by omega)))
theorem c_work (w : RW mo t ct h) (t1 : t 1 = nI nc) (hC : nc ≤ 4) (hw : ∀ c, c < nc → Fok (f (16 + 8 * c + 5)).toUInt32) : CF l x mX8_work 1 0 0 [.ref mo] (NW mo h f) (fun r h' => r = wrkA f nc ∧ h' = NW mo h f) := by
  have w4 := w.1.row 4 4 7 (by decide)
  have i1 : vp_in 1 (hK h (mo + 4)).2 := by rw [w4.2.2]; exact vp_in_nI (n := 1) (by decide) (by decide)
  have e1 : hI (NW mo h f) (mo + 4) (Int32.toNatClampNeg 1) = nI nc := (toldI 1).trans ((w.2.1 1).trans t1)
  have loop : ∀ (j c : Nat), c + j = nc → Gm l x mX8_work 1 4 [(0, .ref mo), (1, .float (wrkA f c)), (2, .int (nI c))] [] (NW mo h f) 0 0 (hN (NW mo h f)) (fun w h' => ∃ r, w = some (.float r) ∧ r = wrkA f nc ∧ h' = NW mo h f) (fun _ _ => False) := by
    intro j
    induction j with
    | zero =>
      intro c hj
      obtain rfl : c = nc := by omega
      refine vX8_work_4 ⟨w.1.1, mo + 4, w4.1, w4.2.1, i1, fun _ => ⟨_, rfl, rfl, rfl⟩, fun e => absurd ?_ e⟩
      rw [e1]
      exact nI_le (Nat.le_refl _) (by omega)
    | succ j ih =>
      intro c hj
      refine vX8_work_4 ⟨w.1.1, mo + 4, w4.1, w4.2.1, i1, fun e => absurd e ?_, fun _ => ⟨_, c_carOf (k := 5) w.1 (by omega) (by decide), ?_⟩⟩
      · rw [e1]
        exact nI_ge (by omega) (by omega)
      · rintro _ _ ⟨rfl, rfl⟩
        rw [nI_1]
        exact ⟨Fok.s (hw c (by omega)), Fok.n (wrk_ok hw (c + 1) (by omega)), ih (c + 1) (by omega)⟩
  exact Cm.of (by decide) (Nat.le_of_ble_eq_true rfl) (vX8_work_0 (loop nc 0 (by omega)))
theorem quiet_cnt {f : Nat → Int32} (hw : ∀ r, r < nr → f (48 + 9 * r + 4) = 0 ∨ f (48 + 9 * r + 4) = 1 ∨ f (48 + 9 * r + 4) = 2 ∨ f (48 + 9 * r + 4) = 3) : cnt f 0 nr + cnt f 1 nr + cnt f 2 nr + cnt f 3 nr = nr := by
  have : ∀ n, n ≤ nr → cnt f 0 n + cnt f 1 n + cnt f 2 n + cnt f 3 n = n := by
    intro n
    induction n with
    | zero => intro _; rfl
    | succ n ih =>
      intro hn
      have ih := ih (by omega)
      unfold cnt at ih ⊢
      rw [fb_ct_succ, fb_ct_succ, fb_ct_succ, fb_ct_succ]
      rcases hw n (by omega) with e | e | e | e <;> simp [e] <;> omega
  exact this nr (Nat.le_refl _)
theorem c_isQuiet (w : RW mo t ct h) (hT : TK t nc nf) (I : Inv ct nc nf nr m f) : CI l x mX8_isQuiet 3 0 0 [.ref mo] (NW mo h f) (fun v h' => (¬ v = 0 ↔ QP t nc nr f) ∧ h' = NW mo h f) := by
  have hC := I.hc
  have h24 := I.hr
  have hm := I.mlt
  have w4 := w.1.row 4 4 7 (by decide)
  have i1 : vp_in 1 (hK h (mo + 4)).2 := by rw [w4.2.2]; exact vp_in_nI (n := 1) (by decide) (by decide)
  have e1 : hI (NW mo h f) (mo + 4) (Int32.toNatClampNeg 1) = nI nc := (toldI 1).trans ((w.2.1 1).trans hT.2)
  have sum := quiet_cnt (nr := nr) fun r hr => (I.rids r hr).wh
  have loop : ∀ (j c : Nat) (v : Int32), c + j = nc → (v = 0 ∨ v = 1) → (¬ v = 0 ↔ cnt f 3 nr = nr ∧ ∀ c', c' < c → f (16 + 8 * c' + 4) = 0 ∨ (f (16 + 8 * c' + 2) = 0 ∧ f (16 + 8 * c') = parksC f t (min 8 (mm f)) c')) → Gm l x mX8_isQuiet 3 28 [(0, .ref mo), (1, .int v), (2, .int (nI c))] [] (NW mo h f) 0 0 (hN (NW mo h f)) (fun w h' => ∃ r, w = some (.int r) ∧ (¬ r = 0 ↔ QP t nc nr f) ∧ h' = NW mo h f) (fun _ _ => False) := by
    intro j
    induction j with
    | zero =>
      intro c v hj hv hq
      obtain rfl : c = nc := by omega
      refine vX8_isQuiet_28 ⟨w.1.1, mo + 4, w4.1, w4.2.1, i1, fun _ => ⟨hv, _, rfl, hq, rfl⟩, fun e => absurd ?_ e⟩
      rw [e1]
      exact nI_le (Nat.le_refl _) (by omega)
    | succ j ih =>
      intro c v hj hv hq
      have next : ∀ v' : Int32, (v' = 0 ∨ v' = 1) → (¬ v' = 0 ↔ ¬ v = 0 ∧ (f (16 + 8 * c + 4) = 0 ∨ (f (16 + 8 * c + 2) = 0 ∧ f (16 + 8 * c) = parksC f t (min 8 (mm f)) c))) → Gm l x mX8_isQuiet 3 28 [(0, .ref mo), (1, .int v'), (2, .int (nI c + 1))] [] (NW mo h f) 0 0 (hN (NW mo h f)) (fun w h' => ∃ r, w = some (.int r) ∧ (¬ r = 0 ↔ QP t nc nr f) ∧ h' = NW mo h f) (fun _ _ => False) := by
        intro v' h1 h2
        rw [nI_1]
        refine ih (c + 1) v' (by omega) h1 (h2.trans ?_)
        rw [hq]
        constructor
        · rintro ⟨⟨z1, z2⟩, z3⟩
          refine ⟨z1, fun c' hc' => ?_⟩
          by_cases y : c' = c
          · rw [y]; exact z3
          · exact z2 c' (by omega)
        · rintro ⟨z1, z2⟩
          exact ⟨⟨z1, fun c' hc' => z2 c' (by omega)⟩, z2 c (by omega)⟩
      refine vX8_isQuiet_28 ⟨w.1.1, mo + 4, w4.1, w4.2.1, i1, fun e => absurd e ?_, fun _ => ⟨fun e2 => next 0 (Or.inl rfl) ⟨fun z => absurd rfl z, fun z => absurd e2 z.1⟩, fun e2 => ⟨_, c_carOf (k := 4) w.1 (by omega) (by decide), ?_⟩⟩⟩
      · rw [e1]
        exact nI_ge (by omega) (by omega)
      rintro _ _ ⟨rfl, rfl⟩
      refine ⟨fun e3 => next 1 (Or.inr rfl) ⟨fun _ => ⟨e2, Or.inl e3⟩, fun _ => by decide⟩, fun e3 => ⟨w.1.1, _, c_carOf (k := 2) w.1 (by omega) (by decide), ?_⟩⟩
      rintro _ _ ⟨rfl, rfl⟩
      refine ⟨fun e4 => next 0 (Or.inl rfl) ⟨fun z => absurd rfl z, fun z => z.2.elim (fun y => absurd y e3) (fun y => absurd y.1 e4)⟩, fun e4 => ⟨w.1.1, _, c_carOf (k := 0) w.1 (by omega) (by decide), ?_⟩⟩
      rintro _ _ ⟨rfl, rfl⟩
      refine ⟨w.1.1, _, c_parks (m := m) (n := min 8 m) (t := t) w.1 (by omega) I.h7 (by omega) rfl w.2.1, ?_⟩
      rintro _ _ ⟨rfl, rfl⟩
      have pm : parksC f t (min 8 m) c = parksC f t (min 8 (mm f)) c := by rw [I.i_mm]
      rw [pm]
      by_cases e5 : f (16 + 8 * c + 0) = parksC f t (min 8 (mm f)) c
      · rw [if_pos e5]
        exact next 1 (Or.inr rfl) ⟨fun _ => ⟨e2, Or.inr ⟨e4, e5⟩⟩, fun _ => by decide⟩
      · rw [if_neg e5]
        exact next 0 (Or.inl rfl) ⟨fun z => absurd rfl z, fun z => z.2.elim (fun y => absurd y e3) (fun y => absurd y.2 e5)⟩
  refine Cm.of (by decide) (Nat.le_of_ble_eq_true rfl) (vX8_isQuiet_0 ⟨w.1.1, _, c_many w.1 I.h6 h24, ?_⟩)
  rintro _ _ ⟨rfl, rfl⟩
  refine ⟨w.1.1, _, c_many w.1 I.h6 h24, ?_⟩
  rintro _ _ ⟨rfl, rfl⟩
  refine ⟨w.1.1, _, c_many w.1 I.h6 h24, ?_⟩
  rintro _ _ ⟨rfl, rfl⟩
  rw [mny_cnt, mny_cnt, mny_cnt, nI_add, nI_add]
  have c0 : nI (cnt f 0 nr + cnt f 1 nr + cnt f 2 nr) = 0 ↔ cnt f 3 nr = nr := by
    refine Iff.trans (nI_eq (a := cnt f 0 nr + cnt f 1 nr + cnt f 2 nr) (b := 0) (by omega) (by omega)) ?_
    omega
  by_cases e : nI (cnt f 0 nr + cnt f 1 nr + cnt f 2 nr) = 0
  · rw [if_pos e]
    exact loop nc 0 1 (by omega) (Or.inr rfl) ⟨fun _ => ⟨c0.mp e, fun c' z => absurd z (Nat.not_lt_zero c')⟩, fun _ => by decide⟩
  · rw [if_neg e]
    exact loop nc 0 0 (by omega) (Or.inl rfl) ⟨fun z => absurd rfl z, fun z => absurd (c0.mpr z.1) e⟩
end ReadR
