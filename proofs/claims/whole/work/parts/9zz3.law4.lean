/-! THE LAW: its loop, its start -/
section Law4
variable {l : Launch} {x : CX} {xL n0 : Nat} {xs : Nat → Int32}
theorem cond6 {i : Nat} (h1 : xL ≤ 3072) (h2 : i ≤ 4000) : Int32.ofNat xL - 6 < nI i ↔ xL < i + 6 := by
  by_cases z : 6 ≤ xL
  · have e : Int32.ofNat xL - 6 = nI (xL - 6) := nI_sub (a := xL) (b := 6) z
    rw [e, nI_ltI (by omega) (by omega)]
    omega
  · have n : Int32.ofNat xL - 6 < 0 := by
      have : xL = 0 ∨ xL = 1 ∨ xL = 2 ∨ xL = 3 ∨ xL = 4 ∨ xL = 5 := by omega
      rcases this with rfl | rfl | rfl | rfl | rfl | rfl <;> decide
    exact ⟨fun _ => by omega, fun _ => Int32.lt_of_lt_of_le n (Int32.not_lt.mp (nI_pos (by omega)))⟩
theorem law_loop (sz : ScrOk x xL xs) (xo : XO l x) (nk : NcOk x) (hL : xL ≤ 3072) : ∀ (k i : Nat) (h : PH) (rc rs : Nat) (t ct rt : Nat → Int32) (nc nf nr : Nat) (D : DT) (tl : Nat) (tp : Nat → Int32) (fp : Int32) (I : Option DT), xL < i + 6 * (k + 1) → i ≤ 4000 → IN h t ct rt nc nf nr D tl tp fp I → BU h k rc rs → Gm l x mL_law 15 23 [(0, .retAddr 999), (1, .ref 0), (2, .ref 177), (3, .ref 200), (4, .int (nI i))] [] h rc rs n0 (fun v _ => v = some (.int 1)) (fun _ _ => False)
  | 0, i, h, rc, rs, t, ct, rt, nc, nf, nr, D, tl, tp, fp, I, hk, hi, q, b => by
    exact vL_law_23 sz ⟨fun _ => ⟨Or.inr rfl, rfl⟩, fun z => absurd ((cond6 hL hi).mpr (by omega)) z⟩
  | k + 1, i, h, rc, rs, t, ct, rt, nc, nf, nr, D, tl, tp, fp, I, hk, hi, q, b => by
    refine vL_law_23 sz ⟨fun _ => ⟨Or.inr rfl, rfl⟩, fun z => ?_⟩
    have le : i + 6 ≤ xL := Nat.le_of_not_lt fun y => z ((cond6 hL hi).mpr y)
    have vv : ∀ j, j < 6 → vp_in (nI i + nI j) xL := fun j hj => by rw [nI_add]; exact vp_in_nI (by omega) (by omega)
    have v0 : vp_in (nI i) xL := vp_in_nI (by omega) (by omega)
    have v1 : vp_in (nI i + 1) xL := vv 1 (by decide)
    have v2 : vp_in (nI i + 2) xL := vv 2 (by decide)
    have v3 : vp_in (nI i + 3) xL := vv 3 (by decide)
    have v4 : vp_in (nI i + 4) xL := vv 4 (by decide)
    have v5 : vp_in (nI i + 5) xL := vv 5 (by decide)
    have N : NX l x (nI i) k n0 (fun v _ => v = some (.int 1)) (fun _ _ => False) := fun h' rc' rs' t ct rt nc nf nr D tl tp fp I q' b' => by
      refine vL_law_1580 sz ?_
      rw [show nI i + 6 = nI (i + 6) from nI_add i 6]
      exact law_loop sz xo nk hL k (i + 6) h' rc' rs' t ct rt nc nf nr D tl tp fp I (by omega) (by omega) q' b'
    exact ⟨v0, fun _ => law_feed sz q b v1 v2 v3 v4 v5 N, fun _ => law_group sz xo nk q b v1 N, fun _ => law_fault sz xo nk q b N, fun _ => law_count sz xo nk q b v1 N, fun _ => law_car sz xo nk q b v1 v2 N, fun _ => law_rider sz xo nk q b v1 v2 N, fun _ => law_given sz xo nk q b v1 v2 v3 N, fun _ => law_cost sz xo nk q b v1 v2 v3 v4 N, fun _ => law_ticks sz xo nk q b v1 N, fun _ => law_come sz xo nk q b v1 v2 v3 N, fun _ => law_out sz xo nk q b v1 v2 N, fun _ => law_fire sz xo nk q b v1 N, fun _ => law_rule sz xo nk q b v1 v2 N, fun _ => law_undo sz xo nk q b N, fun _ => law_ahead sz xo nk q b v1 v2 N, fun _ => law_when sz xo nk q b v1 N, fun _ => law_mean sz xo nk q b v1 v2 N, fun _ => law_anew sz xo nk q b v1 v2 v3 N, fun _ => law_homes sz xo nk q b v1 v2 N, fun _ => law_later sz xo nk q b v1 N, fun _ => law_note sz xo nk q b v1 v2 N, fun _ => law_fits sz xo nk q b v1 N, fun _ => law_look sz xo nk q b v1 N, fun _ => law_forget sz xo nk q b N, fun _ => law_years sz xo nk q b v1 v2 v3 N, fun _ => law_image sz xo q b N, fun _ => law_restore sz xo q b N, fun _ => N h rc rs t ct rt nc nf nr D tl tp fp I q b.dn⟩
/-- nothing is made yet -/
def h00 : PH := (0, fun _ => (999, 0), fun _ _ => 0, fun _ _ => 0, fun _ _ => 0, fun _ _ => none)
theorem nul_le (h : PH) (a : Nat) : nul h a ≤ 40 := by
  unfold nul
  exact fb_ct_le _ _
theorem law_first {h8 h16 : PH} (L : LBS h8 0) (P : PS h8 67) (B1 : BS h8 68) (Z1 : BZ h8 68) (B2 : BS h8 100) (kn : ∀ i, hI h8 132 i = 0) (S : DS h8 139) (Z2 : BZ h8 140) (rw0 : ∀ i, hR h8 173 i = none) (a1 : hI h8 172 1 = 0) (a2 : hI h8 172 2 = 0) (nt : hI h8 139 4 = 0) (rf : ∀ i, hI h8 176 i = 0) (tl : hI h8 1 1 = 0) (fp : hI h8 0 1 = -1) (pc : hR h8 0 5 = none) (pd : hI h8 0 6 = 0) (n8 : hN h8 = 177) (M : M0 (nw h8 (8, 0)) 177 h16) : ∃ t, IN (nw h16 (104, 1)) t (fun _ => 0) (fun _ => 0) 0 8 0 (bgF t (fun _ => 0) (fun _ => 0) 0 0, (0, fun _ _ => 0), (0, fun _ => 0, fun _ => 0), fun _ => 0) 0 (fun _ => 0) (-1) none ∧ BU (nw h16 (104, 1)) 512 5000 40000 := by
  obtain ⟨m1, m2, t, mt, mX, mN, mI, m20, m3⟩ := M
  refine ⟨t, ?_⟩
  have A : ∀ b, b < 177 → Ac b h8 (nw h16 (104, 1)) := fun b hb => ((nw_Ac (by rw [n8]; omega)).trans (m2 b hb)).trans (nw_Ac (by rw [m1]; omega))
  have M6 : ∀ b, 177 ≤ b → b < 200 → Ac b h16 (nw h16 (104, 1)) := fun b h1 h2 => nw_Ac (by rw [m1]; omega)
  have n19 : hN (nw h16 (104, 1)) = 201 := by rw [hN_nw, m1]
  have k19 : hK (nw h16 (104, 1)) 200 = (104, 1) := by rw [hK_nw, m1, if_pos rfl]
  have i0 : ∀ j, j ≠ 20 → hI h16 177 j = 0 := fun j hj => by
    rw [mI j hj, hI_nw, n8, if_pos rfl]
  generalize nw h16 (104, 1) = g at A M6 n19 k19 ⊢
  have A0 := A 0 (by decide)
  have e3 : tellsT t 3 = 2 := by unfold tellsT; rw [mt 3 (by decide)]; rfl
  have e4 : tellsT t 4 = 0 := by unfold tellsT; rw [mt 4 (by decide)]; rfl
  have e5 : tellsT t 5 = 1 := by unfold tellsT; rw [mt 5 (by decide)]; rfl
  have e6 : tellsT t 6 = 0 := by unfold tellsT; rw [mt 6 (by decide)]; rfl
  have T : TD t (fun _ => 0) (fun _ => 0) 0 8 0 := TD_zero mt
  have W := Row_bg T
  have w16 : MW 177 h16 := mX.1.1
  have W19 : MW 177 g := by
    obtain ⟨q1, q2, q3, q4, q5⟩ := w16
    refine ⟨by rw [(M6 177 (by decide) (by decide)).1]; exact q1, fun q hq => ?_, by rw [(M6 177 (by decide) (by decide)).hR]; exact q3, by rw [(M6 (177 + 1) (by decide) (by decide)).1]; exact q4, fun j hj => by rw [(M6 (177 + 1) (by decide) (by decide)).hR]; exact q5 j hj⟩
    have := mt_lt q hq
    rw [(M6 177 (by decide) (by decide)).hR, (M6 (177 + q.2.1) (by omega) (by omega)).1]
    exact q2 q hq
  have s8 : BS h8 140 := S.b
  have s9 : BS g 140 := s8.ac fun b h1 h2 => A b (by omega)
  have z9 : BZ g 140 := Z2.ac fun k => (A 140 (by decide)).hI k
  have B0 : BR g 140 t (fun _ => 0) 0 8 0 (bgF t (fun _ => 0) (fun _ => 0) 0 0) := BR_zero s9 z9 e3 e4 e5 e6
  have R0 : Row (fun _ => 0) 0 8 (rn (bgF t (fun _ => 0) (fun _ => 0) 0 0)) (bgF t (fun _ => 0) (fun _ => 0) 0 0) := by rw [W.rnE]; exact W
  have B108 : BR g 140 t (fun _ => 0) 0 8 (rn (bgF t (fun _ => 0) (fun _ => 0) 0 0)) (bgF t (fun _ => 0) (fun _ => 0) 0 0) := by rw [W.rnE]; exact B0
  refine ⟨⟨⟨⟨T, ⟨⟨by decide, ?_, fun i hi => absurd hi (Nat.not_lt_zero _), Nat.zero_le _⟩, fun i hi => absurd hi (Nat.not_lt_zero _), ⟨0, ?_, by decide⟩, fun i hi => absurd hi (Nat.not_lt_zero _), Nat.zero_le _⟩, fun J e => by cases e⟩, fun _ => 0, 0, L.acs fun b hb => A b (by omega), ⟨P.acs fun b h1 h2 => A b (by omega), BR_zero (B1.ac fun b h1 h2 => A b (by omega)) (Z1.ac fun k => (A 68 (by decide)).hI k) e3 e4 e5 e6, B2.ac fun b h1 h2 => A b (by omega), fun k hk e => absurd ?_ e⟩, ⟨S.frs (S := fun b => 177 ≤ b) ⟨by rw [n8, n19]; decide, fun b hb hs => A b (by omega)⟩ fun b h1 h2 z => by omega, fun i hi b e => ?_, ⟨by decide, ?_, ?_, Nat.zero_le _, fun i hi => absurd hi (Nat.not_lt_zero _)⟩, ?_, ⟨?_, fun i hi => absurd hi (Nat.not_lt_zero _), fun i hi => ?_⟩, fun i hi => by show (0 : Nat) ≠ 100 + i; omega⟩, ⟨?_, Nat.zero_le _, fun i hi => absurd hi (Nat.not_lt_zero _)⟩, ?_, fun b hb => by show (0 : Nat) < 100; decide, by rw [n19]; decide, by rw [k19], Or.inl ⟨by rw [A0.hR]; exact pc, rfl⟩, Or.inl ⟨rfl, by rw [A0.hI]; exact pd⟩⟩, ⟨⟨⟨W19, fun k => ?_, fun k => ?_⟩, fun k => ?_⟩, ⟨fun j hj => ?_, ⟨?_, fun i hi => absurd hi (Nat.not_lt_zero _)⟩, ⟨?_, fun i hi => absurd hi (Nat.not_lt_zero _)⟩, fun i hi => ?_⟩, ⟨?_, fun i hi => absurd hi (Nat.not_lt_zero _)⟩, ?_, Or.inl ⟨rfl, ?_⟩, k19⟩, fun i hi => absurd hi (Nat.not_lt_zero _)⟩, ?_⟩
  · exact R0
  · show bgF t (fun _ => 0) (fun _ => 0) 0 0 3 = nI 0
    rw [bg_lo (by decide)]
    exact e4
  · rw [(A (67 + 65) (by decide)).hI]; exact kn k
  · rw [(A (139 + 33 + 1) (by decide)).hR, show hR h8 (139 + 33 + 1) i = none from rw0 i] at e
    cases e
  · rw [(A (139 + 33) (by decide)).hI]; exact a1
  · rw [(A (139 + 33) (by decide)).hI]; exact a2
  · exact B108
  · rw [(A 139 (by decide)).hI]; exact nt
  · rw [(A (139 + 37) (by decide)).hI]; exact rf i
  · rw [(A 1 (by decide)).hI]; exact tl
  · rw [A0.hI]; exact fp
  · rw [(M6 (177 + 4) (by decide) (by decide)).hI]; exact mX.1.2.1 k
  · rw [(M6 (177 + 6) (by decide) (by decide)).hI]; exact mX.1.2.2 k
  · rw [(M6 (177 + 8) (by decide) (by decide)).hI]; exact mX.2 k
  · rw [(M6 (177 + 2) (by decide) (by decide)).hI]; exact mN j hj
  · rw [(M6 177 (by decide) (by decide)).hI]; exact i0 24 (by decide)
  · rw [(M6 177 (by decide) (by decide)).hI]; exact i0 26 (by decide)
  · rw [(M6 (177 + 3) (by decide) (by decide)).hI]; exact m3 i
  · rw [(M6 177 (by decide) (by decide)).hI]; exact i0 11 (by decide)
  · rw [(M6 177 (by decide) (by decide)).hI]; exact m20
  · rw [(M6 177 (by decide) (by decide)).hI]; exact i0 34 (by decide)
  · have nl := nul_le g 172
    unfold BU pot
    rw [show hR g 0 5 = none by rw [A0.hR]; exact pc]
    simp only
    omega
theorem law_start (sz : ScrOk x xL xs) (xo : XO l x) (nk : NcOk x) (hL : xL ≤ 3072) : Gm l x mL_law 15 0 [(0, .retAddr 999)] [] h00 601024 7293033 0 (fun v _ => v = some (.int 1)) (fun _ _ => False) := by
  refine vL_law_0 sz ⟨by decide, by decide, fun h3 e3 => ?_⟩
  have n3 : hN h3 = 0 + 1 := by rw [e3]; rfl
  have k3 : (hK h3 0).1 = 7 := by rw [e3]; rfl
  refine ⟨176, 3720, _, Nat.le_of_ble_eq_true rfl, Nat.le_of_ble_eq_true rfl, k_initLift (a := 0) xo.1 k3 n3, ?_⟩
  rintro h8 ⟨n8, _, L, P, B1, Z1, B2, kn, S, Z2, rw0, a1, a2, nt, rf, tl, fp, pc, pd⟩
  have n8 : hN h8 = 177 := n8
  refine ⟨Nat.le_of_ble_eq_true rfl, Nat.le_of_ble_eq_true rfl, fun h11 e11 => ?_⟩
  have n11 : hN h11 = 177 + 1 := by rw [e11, hN_nw, n8]
  have k11 : (hK h11 177).1 = 8 := by rw [e11, hK_nw, n8, if_pos rfl]
  refine ⟨22, 28383, _, Nat.le_of_ble_eq_true rfl, Nat.le_of_ble_eq_true rfl, by rw [n8]; exact c_initM (mo := 177) xo.1 k11 n11, ?_⟩
  rintro h16 M
  have n16 : hN h16 = 200 := M.1
  refine ⟨Nat.le_of_ble_eq_true rfl, Nat.le_of_ble_eq_true rfl, fun h19 e19 => ?_⟩
  rw [e11] at M
  obtain ⟨t, q, b⟩ := law_first L P B1 Z1 B2 kn S Z2 rw0 a1 a2 nt rf tl fp pc pd n8 M
  rw [← e19] at q b
  rw [n8, n16]
  exact law_loop sz xo nk hL 512 0 h19 _ _ _ _ _ _ _ _ _ _ _ _ _ (by omega) (by decide) q ⟨Nat.le_trans b.1 (Nat.le_of_ble_eq_true rfl), Nat.le_trans b.2 (Nat.le_of_ble_eq_true rfl)⟩
end Law4
