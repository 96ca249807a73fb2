/-! THE CLASS: Replay, the best and the thriftiest, and how it begins -/
section Replay3
variable {l : Launch} {x : CX} {h h' : PH} {o o2 rp nc nf nr m c : Nat} {f t ct rt : Nat → Int32}
theorem rnE {p y : Nat} (hy : y < 12) : rnF t ct rt nc nf nr (12 * p + y) = run t ct nc nf nr (anF t ct rt nc nr (nI p) (nI y)) := by
  unfold rnF
  rw [show (12 * p + y) / 12 = p by omega, show (12 * p + y) % 12 = y by omega]
theorem k_best {y : Nat} (O : XN x) (R : RP h rp t ct rt nc nf nr) (T : TD t ct rt nc nf nr) (hy : y < 12) : CI l x mX5_best 6 0 0 [.ref rp, .int (nI y)] h (fun v h' => v = nI (bsA (wtP t ct rt nc nf nr (nI y)) 3) ∧ FrX (rp + 33) (rp + 72) h h' ∧ RP h' rp t ct rt nc nf nr) := by
  generalize hw : wtP t ct rt nc nf nr (nI y) = w
  have loop : ∀ (j k : Nat) (g : PH), k + j = 3 → 1 ≤ k → FrX (rp + 33) (rp + 72) h g → RP g rp t ct rt nc nf nr → Gm l x mX5_best 6 4 [(0, .ref rp), (1, .int (nI y)), (2, .int (nI (bsA w k))), (3, .int (nI k))] [] g 0 0 (hN h) (fun v h' => ∃ z, v = some (.int z) ∧ z = nI (bsA w 3) ∧ FrX (rp + 33) (rp + 72) h h' ∧ RP h' rp t ct rt nc nf nr) (fun _ _ => False) := by
    intro j
    induction j with
    | zero =>
      intro k g hk h1 pg Rg
      obtain rfl : k = 3 := by omega
      exact vX5_best_4 ⟨fun _ => ⟨_, rfl, rfl, pg, Rg⟩, fun e => absurd (by decide) e⟩
    | succ j ih =>
      intro k g hk h1 pg Rg
      have hb := bsA_lt' (w := w) k (by omega)
      refine vX5_best_4 ⟨fun e => absurd e (nI_ge (b := 3) (by omega) (by decide)), fun _ => ⟨Rg.1.1, rp + 66, Rg.1.2.2.2.2.2.1, _, k_run O Rg T (by omega) hy, ?_⟩⟩
      rintro _ h7 ⟨rfl, p7, R7, M7, _, _⟩
      have P7 := R7.1
      refine ⟨by rw [P7.2.2.2.2.2.2.1], by rw [P7.2.2.2.2.2.2.1]; exact vp_in_nI (by omega) (by decide), P7.1, rp + 66, P7.2.2.2.2.2.1, _, k_run O R7 T (by omega) hy, ?_⟩
      rintro _ h16 ⟨rfl, p16, R16, M16, _, _⟩
      have P16 := R16.1
      refine ⟨by rw [P16.2.2.2.2.2.2.1], by rw [P16.2.2.2.2.2.2.1]; exact vp_in_nI (by omega) (by decide), ?_⟩
      rw [nI_clamp (by omega), nI_clamp (by omega), M7.1, M16.1, rnE hy, rnE hy]
      have h2 := ih (k + 1) h16 (by omega) (by omega) ((pg.trans p7).trans p16) R16
      rw [bsA, if_neg (by omega)] at h2
      rw [show ∀ p, wtdA (run t ct nc nf nr (anF t ct rt nc nr (nI p) (nI y))) nr = w p from fun p => by rw [← hw]; rfl, show ∀ p, wtdA (run t ct nc nf nr (anF t ct rt nc nr (nI p) (nI y))) nr = w p from fun p => by rw [← hw]; rfl, nI_1]
      by_cases e : w k < w (bsA w k)
      · have e' : ¬ w (bsA w k) ≤ w k := by rw [Int32.le_iff_toInt_le]; rw [Int32.lt_iff_toInt_lt] at e; omega
        rw [if_pos e] at h2
        rw [if_neg e']
        exact h2
      · have e' : w (bsA w k) ≤ w k := by rw [Int32.le_iff_toInt_le]; rw [Int32.lt_iff_toInt_lt] at e; omega
        rw [if_neg e] at h2
        rw [if_pos e']
        exact h2
  exact Cm.of (by decide) (Nat.le_of_ble_eq_true rfl) (vX5_best_0 (loop 2 1 h rfl (Nat.le_refl _) (FrX.refl _ _ _) R))
theorem k_thrift {y : Nat} (O : XN x) (R : RP h rp t ct rt nc nf nr) (T : TD t ct rt nc nf nr) (hy : y < 12) : CI l x mX5_thrift 6 0 0 [.ref rp, .int (nI y)] h (fun v h' => v = nI (thA (wkP t ct rt nc nf nr (nI y)) 3) ∧ FrX (rp + 33) (rp + 72) h h' ∧ RP h' rp t ct rt nc nf nr) := by
  have ok : ∀ p, p < 3 → Fok (wkP t ct rt nc nf nr (nI y) p) := fun p hp => wkP_ok T hp
  generalize hw : wkP t ct rt nc nf nr (nI y) = w at ok ⊢
  have loop : ∀ (j k : Nat) (g : PH), k + j = 3 → 1 ≤ k → FrX (rp + 33) (rp + 72) h g → RP g rp t ct rt nc nf nr → Gm l x mX5_thrift 6 4 [(0, .ref rp), (1, .int (nI y)), (2, .int (nI (thA w k))), (3, .int (nI k))] [] g 0 0 (hN h) (fun v h' => ∃ z, v = some (.int z) ∧ z = nI (thA w 3) ∧ FrX (rp + 33) (rp + 72) h h' ∧ RP h' rp t ct rt nc nf nr) (fun _ _ => False) := by
    intro j
    induction j with
    | zero =>
      intro k g hk h1 pg Rg
      obtain rfl : k = 3 := by omega
      exact vX5_thrift_4 ⟨fun _ => ⟨_, rfl, rfl, pg, Rg⟩, fun e => absurd (by decide) e⟩
    | succ j ih =>
      intro k g hk h1 pg Rg
      obtain ⟨k', rfl⟩ : ∃ k', k = k' + 1 := ⟨k - 1, by omega⟩
      have hb := thA_lt' (w := w) k'
      refine vX5_thrift_4 ⟨fun e => absurd e (nI_ge (b := 3) (by omega) (by decide)), fun _ => ⟨Rg.1.1, rp + 70, Rg.1.2.2.2.2.2.2.2.2.2.2.2.2.2.1, _, k_run O Rg T (by omega) hy, ?_⟩⟩
      rintro _ h7 ⟨rfl, p7, R7, M7, _, _⟩
      have P7 := R7.1
      refine ⟨by rw [P7.2.2.2.2.2.2.2.2.2.2.2.2.2.2.1], by rw [P7.2.2.2.2.2.2.2.2.2.2.2.2.2.2.1]; exact vp_in_nI (by omega) (by decide), P7.1, rp + 70, P7.2.2.2.2.2.2.2.2.2.2.2.2.2.1, _, k_run O R7 T (by omega) hy, ?_⟩
      rintro _ h16 ⟨rfl, p16, R16, M16, _, _⟩
      have P16 := R16.1
      refine ⟨by rw [P16.2.2.2.2.2.2.2.2.2.2.2.2.2.2.1], by rw [P16.2.2.2.2.2.2.2.2.2.2.2.2.2.2.1]; exact vp_in_nI (by omega) (by decide), ?_⟩
      rw [nI_clamp (by omega), nI_clamp (by omega), M7.2.2.2.2.1, M16.2.2.2.2.1, rnE hy, rnE hy]
      have h2 := ih (k' + 1 + 1) h16 (by omega) (by omega) ((pg.trans p7).trans p16) R16
      rw [thA, if_neg (by omega)] at h2
      rw [show ∀ p, wrkA (run t ct nc nf nr (anF t ct rt nc nr (nI p) (nI y))) nc = w p from fun p => by rw [← hw]; rfl, show ∀ p, wrkA (run t ct nc nf nr (anF t ct rt nc nr (nI p) (nI y))) nc = w p from fun p => by rw [← hw]; rfl, nI_1, cmp_l (ok _ (by omega)) (ok _ (by omega))]
      by_cases e : (w (k' + 1)).toNat < (w (thA w (k' + 1))).toNat
      · rw [if_pos e] at h2
        rw [if_pos e, if_neg (by decide)]
        exact h2
      · rw [if_neg e] at h2
        rw [if_neg e, if_pos (by split <;> decide)]
        exact h2
  exact Cm.of (by decide) (Nat.le_of_ble_eq_true rfl) (vX5_thrift_0 (loop 2 1 h rfl (Nat.le_refl _) (FrX.refl _ _ _) R))
theorem k_beginR (P : PS h rp) (S1 : BS h (rp + 1)) (S2 : BS h (rp + 33)) (B : BT h o t ct rt nc nf nr) (T : TD t ct rt nc nf nr) (hd : o + 32 ≤ rp + 1 ∨ rp + 33 ≤ o) : CV l x mX5_begin 2 0 0 [.ref rp, .ref o] h (fun h' => FrX (rp + 1) (rp + 66) h h' ∧ RP h' rp t ct rt nc nf nr) := by
  have hC := T.c4
  have h20 := T.r20
  obtain ⟨⟨m, I⟩, G, _⟩ := Row_bg T
  refine Cm.of (by decide) (Nat.le_of_ble_eq_true rfl) (vX5_begin_0 ⟨P.1, rp + 1, P.2.1, S1.k, _, k_copyBank B S1 I G (by omega), ?_⟩)
  rintro h7 ⟨p7, B7⟩
  have loop : ∀ (j k : Nat) (g : PH), k + j = 36 → FrX (rp + 65) (rp + 66) h7 g → (∀ i, i < k → hI g (rp + 65) i = 0) → Gm l x mX5_begin 2 10 [(0, .ref rp), (1, .ref o), (2, .int (nI k))] [] g 0 0 (hN h) (fun v h' => v = none ∧ FrX (rp + 1) (rp + 66) h h' ∧ RP h' rp t ct rt nc nf nr) (fun _ _ => False) := by
    intro j
    induction j with
    | zero =>
      intro k g hk pg z
      obtain rfl : k = 36 := by omega
      have Pg := (P.frb p7).frx pg
      refine vX5_begin_10 ⟨Pg.1, rp + 65, Pg.2.2.2.1, by rw [Pg.2.2.2.2.1], fun _ => ⟨rfl, (p7.frx (by omega) (by omega)).trans (pg.mono (by omega) (by omega)), Pg, B7.frx hC (by omega) pg (Or.inr (by omega)), (S2.frb p7).frx pg, fun i hi e => absurd (z i hi) e⟩, fun e => absurd (by rw [Pg.2.2.2.2.1]; decide) e⟩
    | succ j ih =>
      intro k g hk pg z
      have Pg := (P.frb p7).frx pg
      refine vX5_begin_10 ⟨Pg.1, rp + 65, Pg.2.2.2.1, by rw [Pg.2.2.2.2.1], fun e => absurd e (by rw [Pg.2.2.2.2.1]; exact nI_ge (b := 36) (by omega) (by decide)), fun _ => ⟨by rw [Pg.2.2.2.2.1]; exact vp_in_nI (by omega) (by decide), ?_⟩⟩
      rw [nI_clamp (by omega), nI_1]
      refine ih (k + 1) _ (by omega) (pg.trans (((Fr1.refl _ _).sI _ _).frx (by omega) (by omega))) (fun i hi => ?_)
      rw [hI_sI]
      by_cases e : i = k
      · rw [if_pos ⟨e, rfl⟩]; rfl
      · rw [if_neg fun q => e q.1]
        exact z i (by omega)
  exact loop 36 0 h7 rfl (FrX.refl _ _ _) (fun i hi => absurd hi (Nat.not_lt_zero _))
end Replay3
