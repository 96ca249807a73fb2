/-! THE CLASS: Replay -/
/-- its cells: rp Replay, rp+1.. start, rp+33.. bank, rp+65 known, then waited, done, latest, passed, work, doneAt -/
def PS (h : PH) (rp : Nat) : Prop := (hK h rp).1 = 5 ∧ hR h rp 0 = some (rp + 1) ∧ hR h rp 1 = some (rp + 33) ∧ hR h rp 2 = some (rp + 65) ∧ hK h (rp + 65) = (102, 36) ∧ hR h rp 3 = some (rp + 66) ∧ hK h (rp + 66) = (100, 36) ∧ hR h rp 4 = some (rp + 67) ∧ hK h (rp + 67) = (100, 36) ∧ hR h rp 5 = some (rp + 68) ∧ hK h (rp + 68) = (100, 36) ∧ hR h rp 6 = some (rp + 69) ∧ hK h (rp + 69) = (100, 36) ∧ hR h rp 7 = some (rp + 70) ∧ hK h (rp + 70) = (103, 36) ∧ hR h rp 8 = some (rp + 71) ∧ hK h (rp + 71) = (100, 720)
theorem PS.frb {h h' : PH} {rp o : Nat} (q : PS h rp) (p : FrB o h h') : PS h' rp := by
  unfold PS at q ⊢
  simp only [p.hK, p.hR]
  exact q
/-- what is kept of the run k, whose last row is F -/
def MV (h : PH) (rp nc nr : Nat) (F : Nat → Int32) (k : Nat) : Prop := hI h (rp + 66) k = wtdA F nr ∧ hI h (rp + 67) k = mnyA F 3 nr ∧ hI h (rp + 68) k = latA F nr ∧ hI h (rp + 69) k = F 5 ∧ hF h (rp + 70) k = wrkA F nc ∧ ∀ r, r < nr → hI h (rp + 71) (20 * k + r) = F (48 + 9 * r + 7)
abbrev rnF (t ct rt : Nat → Int32) (nc nf nr k : Nat) : Nat → Int32 := run t ct nc nf nr (anF t ct rt nc nr (nI (k / 12)) (nI (k % 12)))
def RP (h : PH) (rp : Nat) (t ct rt : Nat → Int32) (nc nf nr : Nat) : Prop := PS h rp ∧ BT h (rp + 1) t ct rt nc nf nr ∧ BS h (rp + 33) ∧ ∀ k, k < 36 → ¬ hI h (rp + 65) k = 0 → MV h rp nc nr (rnF t ct rt nc nf nr k) k
section Replay
variable {l : Launch} {x : CX} {h h' : PH} {o rp nc nf nr m c : Nat} {f t ct rt : Nat → Int32}
theorem MV.ac {F : Nat → Int32} {k : Nat} (q : MV h rp nc nr F k) (a : ∀ j, 66 ≤ j → j ≤ 71 → Ac (rp + j) h h') : MV h' rp nc nr F k := by
  unfold MV at q ⊢
  rw [(a 66 (by decide) (by decide)).hI, (a 67 (by decide) (by decide)).hI, (a 68 (by decide) (by decide)).hI, (a 69 (by decide) (by decide)).hI, ((a 70 (by decide) (by decide)).2 k).2.2.1]
  refine ⟨q.1, q.2.1, q.2.2.1, q.2.2.2.1, q.2.2.2.2.1, fun r hr => ?_⟩
  rw [(a 71 (by decide) (by decide)).hI]
  exact q.2.2.2.2.2 r hr
theorem RP.frb (q : RP h rp t ct rt nc nf nr) (hC : nc ≤ 4) (h24 : nr ≤ 24) (p : FrB (rp + 33) h h') : RP h' rp t ct rt nc nf nr := by
  refine ⟨q.1.frb p, q.2.1.ac hC h24 (q.2.1.s.frb p) (fun b h1 h2 _ => p.ac (by omega)), q.2.2.1.frb p, fun k hk e => ?_⟩
  rw [(p.ac (b := rp + 65) (by omega)).hI] at e
  exact (q.2.2.2 k hk e).ac fun j h1 h2 => p.ac (by omega)
theorem k_prepare {p y : Int32} (R : RP h rp t ct rt nc nf nr) (T : TD t ct rt nc nf nr) : CV l x mX5_prepare 2 0 0 [.ref rp, .int p, .int y] h (fun h' => FrB (rp + 33) h h' ∧ BR h' (rp + 33) t ct nc nf nr (anF t ct rt nc nr p y)) := by
  have hC := T.c4
  have h20 := T.r20
  obtain ⟨⟨m, I⟩, G, _⟩ := Row_bg T
  refine Cm.of (by decide) (Nat.le_of_ble_eq_true rfl) (vX5_prepare_0 ⟨R.1.1, rp + 33, R.1.2.2.1, rp + 1, R.1.2.1, R.2.2.1.k, _, k_copyBank (o := rp + 33) R.2.1 R.2.2.1 I G (Or.inr (by omega)), ?_⟩)
  rintro h9 ⟨p9, R9⟩
  have S9 := R.1.frb p9
  have f5 : FrB (rp + 33) h9 (sI (sI h9 (rp + 33) 5 p) (rp + 33) 4 y) := (((Fr1.refl _ _).sI _ _).sI _ _).frb (by omega) (by omega)
  exact ⟨S9.1, rp + 33, S9.2.2.1, R9.s.k, rfl, p9.trans f5, (R9.setB (k := 5) (j := 2) hC (by omega) (Or.inl ⟨rfl, rfl⟩)).setB (k := 4) (j := 3) hC (by omega) (Or.inr (Or.inl ⟨rfl, rfl⟩))⟩
theorem k_passR {F : Nat → Int32} (O : XN x) (T : TD t ct rt nc nf nr) (R : BR h o t ct nc nf nr F) (W : Row ct nc nf nr F) : CV l x mX1_pass 4 0 0 [.ref o, .int 200] h (fun h' => FrB o h h' ∧ BR h' o t ct nc nf nr (run t ct nc nf nr F)) := k_pass (n := 200) O.n_RX1_140 T.tk.1 T.ct' R W (by decide)
theorem k_room {p y : Int32} (O : XN x) (R : RP h rp t ct rt nc nf nr) (T : TD t ct rt nc nf nr) (hp : p = 0 ∨ p = 1 ∨ p = 2) : CI l x mX5_room 5 0 0 [.ref rp, .int p, .int y] h (fun v h' => v = rmA (rmP t ct rt nc nf nr p y) 6 1 ∧ FrB (rp + 33) h h') := by
  have hC := T.c4
  have h20 := T.r20
  have loop : ∀ (j H : Nat) (g : PH), H + j = 7 → 1 ≤ H → FrB (rp + 33) h g → Gm l x mX5_room 5 2 [(0, .ref rp), (1, .int p), (2, .int y), (3, .int (nI H))] [] g 0 0 (hN h) (fun v h' => ∃ r, v = some (.int r) ∧ r = rmA (rmP t ct rt nc nf nr p y) j H ∧ FrB (rp + 33) h h') (fun _ _ => False) := by
    intro j
    induction j with
    | zero =>
      intro H g hH h1 pg
      obtain rfl : H = 7 := by omega
      exact vX5_room_2 ⟨fun _ => ⟨_, rfl, rfl, pg⟩, fun e => absurd (by decide) e⟩
    | succ j ih =>
      intro H g hH h1 pg
      have Rg := R.frb hC (by omega) pg
      refine vX5_room_2 ⟨fun e => absurd e (nI_nlt (a := 6) (b := H) (by omega) (by decide)), fun _ => ⟨Rg.1.1, _, k_prepare Rg T, ?_⟩⟩
      rintro h5 ⟨p5, B5⟩
      have inner : ∀ (i c : Nat) (g' : PH), c + i = nc → FrB (rp + 33) h g' → BR g' (rp + 33) t ct nc nf nr (hdA (anF t ct rt nc nr p y) H c) → Gm l x mX5_room 5 17 [(0, .ref rp), (1, .int p), (2, .int y), (3, .int (nI H)), (4, .int (nI c))] [] g' 0 0 (hN h) (fun v h' => ∃ r, v = some (.int r) ∧ r = rmA (rmP t ct rt nc nf nr p y) (j + 1) H ∧ FrB (rp + 33) h h') (fun _ _ => False) := by
        intro i
        induction i with
        | zero =>
          intro c g' hc pg' B'
          obtain rfl : c = nc := by omega
          have S' := R.1.frb pg'
          have N := New_hd (y := y) T hp h1 (by omega : H ≤ 6) c (Nat.le_refl _)
          refine vX5_room_17 ⟨S'.1, rp + 33, S'.2.2.1, B'.s.k, fun _ => ⟨_, k_passR O T B' N.1, ?_⟩, fun e => absurd ?_ e⟩
          · rintro h8 ⟨p8, B8⟩
            have S8 := S'.frb p8
            refine ⟨S8.1, rp + 33, S8.2.2.1, B8.s.k, _, k_passedInAll B8 hC, ?_⟩
            rintro _ _ ⟨rfl, rfl⟩
            refine ⟨fun e => ?_, fun e => ⟨_, rfl, (if_pos e).symm, pg'.trans p8⟩⟩
            rw [nI_1]
            refine Gm.mono ?_ (ih (H + 1) _ (by omega) (by omega) (pg'.trans p8))
            rintro v h'' ⟨r, e1, e2, e3⟩
            exact ⟨r, e1, e2.trans (if_neg e).symm, e3⟩
          · rw [B'.nc]
            exact nI_le (Nat.le_refl _) (by omega)
        | succ i ih2 =>
          intro c g' hc pg' B'
          have S' := R.1.frb pg'
          refine vX5_room_17 ⟨S'.1, rp + 33, S'.2.2.1, B'.s.k, fun e => absurd e ?_, fun _ => ⟨rp + 33 + 1, B'.s.l, by rw [B'.s.lk], by rw [B'.s.lk]; exact vp_in_nI (by omega) (by decide), rp + 33 + 4 + c, by rw [nI_clamp (by omega)]; exact (B'.s.lc c (by omega)).1, (B'.s.lc c (by omega)).2, ?_⟩⟩
          · rw [B'.nc]
            exact nI_ge (by omega) (by omega)
          · rw [nI_1]
            exact ih2 (c + 1) _ (by omega) (pg'.trans (((Fr1.refl _ _).sI _ _).frb (by omega) (by omega))) (B'.setC (k := 2) (j := 7) hC (by omega) (by omega) (Or.inr (Or.inl ⟨rfl, rfl⟩)))
      exact inner nc 0 h5 (by omega) (pg.trans p5) B5
  exact Cm.of (by decide) (Nat.le_of_ble_eq_true rfl) (vX5_room_0 (loop 6 1 h rfl (Nat.le_refl _) (FrB.refl _ _)))
theorem k_missed {p y : Int32} (O : XN x) (R : RP h rp t ct rt nc nf nr) (T : TD t ct rt nc nf nr) (hp : p = 0 ∨ p = 1 ∨ p = 2) : CI l x mX5_missed 5 0 0 [.ref rp, .int p, .int y] h (fun v h' => v = (msA (mcP t ct rt nc nf nr p y) nc).1 ∧ FrB (rp + 33) h h') := by
  have hC := T.c4
  have h20 := T.r20
  have pos : ∀ c, c < nc → ∃ w, mcP t ct rt nc nf nr p y c = nI w ∧ w ≤ 4800 := fun c hc => ((New_an (y := y) T hp).up ((Row_an T hp).inn hc (Or.inl rfl)) (fun r hr => by omega)).w (t := t) 200 (Nat.le_refl _)
  have loop : ∀ (j c : Nat) (g : PH) (a b : Int32), c + j = nc → FrB (rp + 33) h g → ((c = 0 ∧ a = -1 ∧ b = 0) ∨ (0 < c ∧ (a, b) = msA (mcP t ct rt nc nf nr p y) c ∧ ¬ a = -1)) → Gm l x mX5_missed 5 8 [(0, .ref rp), (1, .int p), (2, .int y), (3, .int a), (4, .int b), (5, .int (nI c))] [] g 0 0 (hN h) (fun v h' => ∃ r, v = some (.int r) ∧ r = (msA (mcP t ct rt nc nf nr p y) nc).1 ∧ FrB (rp + 33) h h') (fun _ _ => False) := by
    intro j
    induction j with
    | zero =>
      intro c g a b hc pg hab
      obtain rfl : c = nc := by omega
      have Rg := R.frb hC (by omega) pg
      refine vX5_missed_8 ⟨Rg.1.1, rp + 1, Rg.1.2.1, Rg.2.1.s.k, fun _ => ⟨_, rfl, ?_, pg⟩, fun e => absurd ?_ e⟩
      · rcases hab with ⟨z0, z1, z2⟩ | ⟨_, z, _⟩
        · subst z0
          exact z1
        · rw [← z]
      · rw [Rg.2.1.nc]
        exact nI_le (Nat.le_refl _) (by omega)
    | succ j ih =>
      intro c g a b hc pg hab
      have Rg := R.frb hC (by omega) pg
      refine vX5_missed_8 ⟨Rg.1.1, rp + 1, Rg.1.2.1, Rg.2.1.s.k, fun e => absurd e ?_, fun _ => ⟨_, k_prepare Rg T, ?_⟩⟩
      · rw [Rg.2.1.nc]
        exact nI_ge (by omega) (by omega)
      rintro h8 ⟨p8, B8⟩
      have S8 := Rg.1.frb p8
      refine ⟨S8.1, rp + 33, S8.2.2.1, B8.s.k, rp + 33 + 1, B8.s.l, by rw [B8.s.lk], by rw [B8.s.lk]; exact vp_in_nI (by omega) (by decide), rp + 33 + 4 + c, by rw [nI_clamp (by omega)]; exact (B8.s.lc c (by omega)).1, (B8.s.lc c (by omega)).2, ?_⟩
      have B9 := B8.setC (k := 6) (j := 4) (v := 0) hC (by omega) (show c < nc by omega) (Or.inr (Or.inr (Or.inr ⟨rfl, rfl⟩)))
      have p9 : FrB (rp + 33) h8 (sI h8 (rp + 33 + 4 + c) 6 0) := ((Fr1.refl _ _).sI _ _).frb (by omega) (by omega)
      refine ⟨_, k_passR O T B9 ((Row_an T hp).inn (by omega) (Or.inl rfl)), ?_⟩
      rintro h22 ⟨p22, B22⟩
      have S22 := (S8.frb p9).frb p22
      refine ⟨S22.1, rp + 33, S22.2.2.1, B22.s.k, _, k_waitedInAll B22.po' (by omega), ?_⟩
      rintro _ _ ⟨rfl, rfl⟩
      rw [nI_1]
      rw [show wtdA (run t ct nc nf nr (up (anF t ct rt nc nr p y) (16 + 8 * c + 4) 0)) nr = mcP t ct rt nc nf nr p y c from rfl]
      obtain ⟨w, hw, hw2⟩ := pos c (by omega)
      refine ih (c + 1) _ _ _ (by omega) (((pg.trans p8).trans p9).trans p22) (Or.inr ⟨by omega, ?_⟩)
      rw [msA]
      rcases hab with ⟨z0, z1, z2⟩ | ⟨z0, z, z1⟩
      · subst z0
        rw [if_pos z1, if_pos z1, show (msA (mcP t ct rt nc nf nr p y) 0).2 = -1 from rfl, if_pos (lt_of0 hw (by omega))]
        exact ⟨rfl, neg1 (by decide)⟩
      · rw [if_neg z1, if_neg z1, ← z]
        by_cases e : b < mcP t ct rt nc nf nr p y c
        · have e' : ¬ mcP t ct rt nc nf nr p y c ≤ b := by rw [Int32.le_iff_toInt_le]; rw [Int32.lt_iff_toInt_lt] at e; omega
          rw [if_neg e', if_neg e', if_pos e]
          exact ⟨rfl, neg1 (by omega)⟩
        · have e' : mcP t ct rt nc nf nr p y c ≤ b := by rw [Int32.le_iff_toInt_le]; rw [Int32.lt_iff_toInt_lt] at e; omega
          rw [if_pos e', if_pos e', if_neg e]
          exact ⟨rfl, z1⟩
  exact Cm.of (by decide) (Nat.le_of_ble_eq_true rfl) (vX5_missed_0 (loop nc 0 h (-1) 0 (by omega) (FrB.refl _ _) (Or.inl ⟨rfl, rfl, rfl⟩)))
theorem k_waitedByHome {p y : Int32} {n : Nat} (O : XN x) (R : RP h rp t ct rt nc nf nr) (T : TD t ct rt nc nf nr) (hp : p = 0 ∨ p = 1 ∨ p = 2) (hc : c < nc) (hn : n < nf) : CI l x mX5_waitedByHome 5 0 0 [.ref rp, .int (nI c), .int (nI n), .int p, .int y] h (fun v h' => v = wtdA (run t ct nc nf nr (up (up (anF t ct rt nc nr p y) (16 + 8 * c + 6) (nI n)) (16 + 8 * c) (nI n))) nr ∧ FrB (rp + 33) h h') := by
  have hC := T.c4
  have h20 := T.r20
  refine Cm.of (by decide) (Nat.le_of_ble_eq_true rfl) (vX5_waitedByHome_0 ⟨R.1.1, _, k_prepare R T, ?_⟩)
  rintro h8 ⟨p8, B8⟩
  have S8 := R.1.frb p8
  have vi : vp_in (nI c) (hK h8 (rp + 33 + 1)).2 := by rw [B8.s.lk]; exact vp_in_nI (by omega) (by decide)
  have gc : hR h8 (rp + 33 + 1) (nI c).toNatClampNeg = some (rp + 33 + 4 + c) := by rw [nI_clamp (by omega)]; exact (B8.s.lc c (by omega)).1
  have kc := (B8.s.lc c (by omega)).2
  refine ⟨S8.1, rp + 33, S8.2.2.1, B8.s.k, rp + 33 + 1, B8.s.l, by rw [B8.s.lk], vi, _, gc, kc, vi, _, gc, kc, ?_⟩
  have B9 := (B8.setC (k := 1) (j := 6) (v := nI n) hC (by omega) hc (Or.inl ⟨rfl, rfl⟩)).setC (k := 3) (j := 0) (v := nI n) hC (by omega) hc (Or.inr (Or.inr (Or.inl ⟨rfl, rfl⟩)))
  have p9 : FrB (rp + 33) h8 (sI (sI h8 (rp + 33 + 4 + c) 1 (nI n)) (rp + 33 + 4 + c) 3 (nI n)) := (((Fr1.refl _ _).sI _ _).sI _ _).frb (by omega) (by omega)
  refine ⟨_, k_passR O T B9 (((Row_an T hp).hom hc hn).flr hc hn), ?_⟩
  rintro h22 ⟨p22, B22⟩
  have S22 := (S8.frb p9).frb p22
  refine ⟨S22.1, rp + 33, S22.2.2.1, B22.s.k, _, k_waitedInAll B22.po' (by omega), ?_⟩
  rintro _ _ ⟨rfl, rfl⟩
  exact ⟨_, rfl, rfl, (p8.trans p9).trans p22⟩
theorem k_doneIfLater {p y n : Int32} {r : Nat} (O : XN x) (R : RP h rp t ct rt nc nf nr) (T : TD t ct rt nc nf nr) (hp : p = 0 ∨ p = 1 ∨ p = 2) (hr : r < nr) : CI l x mX5_doneIfLater 5 0 0 [.ref rp, .int (nI r), .int n, .int p, .int y] h (fun v h' => v = eaP t ct rt nc nf nr p y r n ∧ FrB (rp + 33) h h') := by
  have hC := T.c4
  have h20 := T.r20
  refine Cm.of (by decide) (Nat.le_of_ble_eq_true rfl) (vX5_doneIfLater_0 ⟨R.1.1, _, k_prepare R T, ?_⟩)
  rintro h8 ⟨p8, B8⟩
  have S8 := R.1.frb p8
  have vi : ∀ {g : PH}, BS g (rp + 33) → vp_in (nI r) (hK g (rp + 33 + 2)).2 := fun S => by rw [S.pk]; exact vp_in_nI (by omega) (by decide)
  have gc : ∀ {g : PH}, BS g (rp + 33) → hR g (rp + 33 + 2) (nI r).toNatClampNeg = some (rp + 33 + 8 + r) := fun S => by rw [nI_clamp (by omega)]; exact (S.pr r (by omega)).1
  refine ⟨S8.1, rp + 33, S8.2.2.1, B8.s.k, rp + 33 + 2, B8.s.p, by rw [B8.s.pk], vi B8.s, _, gc B8.s, (B8.s.pr r (by omega)).2, ?_⟩
  rw [(B8.ri r hr).co, show anF t ct rt nc nr p y (48 + 9 * r + 1) = rt (4 * r + 1) from an_r (k := 1) hC hr (by decide)]
  have B9 := B8.setR (v := rt (4 * r + 1) + n) hC (by omega) hr
  have p9 : FrB (rp + 33) h8 (sI h8 (rp + 33 + 8 + r) 1 (rt (4 * r + 1) + n)) := ((Fr1.refl _ _).sI _ _).frb (by omega) (by omega)
  refine ⟨_, k_passR O T B9 ((Row_an T hp).cms (by omega)), ?_⟩
  rintro h22 ⟨p22, B22⟩
  have S22 := (S8.frb p9).frb p22
  exact ⟨S22.1, rp + 33, S22.2.2.1, B22.s.k, rp + 33 + 2, B22.s.p, by rw [B22.s.pk], vi B22.s, _, gc B22.s, (B22.s.pr r (by omega)).2, _, rfl, (B22.ri r hr).en, (p8.trans p9).trans p22⟩
end Replay
