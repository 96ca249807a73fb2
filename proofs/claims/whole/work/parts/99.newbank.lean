/-! THE CLASS: a new Bank, a cleared one; cars and riders told -/
def clrB (h : PH) (o : Nat) : PH := (sI (sI (sI (sI (sI (sI (sI (sI (sI (sI (sI (sI (sI h o 0 8) o 1 0) o 2 0) o 3 2) o 4 0) o 5 1) o 6 0) o 7 0) o 8 0) o 9 (-1)) o 10 0) o 11 0) o 12 0)
/-- the numbers of a Bank that nothing was told of -/
def BZ (h : PH) (o : Nat) : Prop := hI h o 0 = 8 ∧ hI h o 1 = 0 ∧ hI h o 2 = 0 ∧ hI h o 3 = 2 ∧ hI h o 4 = 0 ∧ hI h o 5 = 1 ∧ hI h o 6 = 0 ∧ hI h o 7 = 0 ∧ hI h o 8 = 0 ∧ hI h o 9 = -1 ∧ hI h o 10 = 0 ∧ hI h o 11 = 0 ∧ hI h o 12 = 0
theorem clr_BZ (h : PH) (o : Nat) : BZ (clrB h o) o := by
  unfold BZ clrB
  simp [hI_sI]
theorem clr_Fr (h : PH) (o : Nat) : Fr1 o h (clrB h o) := (((((((((((((Fr1.refl o h).sI _ _).sI _ _).sI _ _).sI _ _).sI _ _).sI _ _).sI _ _).sI _ _).sI _ _).sI _ _).sI _ _).sI _ _).sI _ _
theorem nw_K (h : PH) (k : Nat × Nat) : hK (nw h k) (hN h) = k := if_pos rfl
theorem nw_Ac {h : PH} {k : Nat × Nat} {b : Nat} (hb : b ≠ hN h) : Ac b h (nw h k) := ⟨if_neg hb, fun _ => ⟨if_neg hb, if_neg hb, if_neg hb, if_neg hb⟩⟩
theorem sR_Ac {h : PH} {a k b : Nat} {v : Option Nat} (hb : b ≠ a) : Ac b h (sR h a k v) := ⟨rfl, fun _ => ⟨rfl, rfl, rfl, if_neg fun e => hb e.2⟩⟩
theorem sI_Ac {h : PH} {a k b : Nat} {v : Int32} (hb : b ≠ a) : Ac b h (sI h a k v) := ⟨rfl, fun _ => ⟨if_neg fun e => hb e.2, rfl, rfl, rfl⟩⟩
theorem sR_at (h : PH) (a k : Nat) (v : Option Nat) : hR (sR h a k v) a k = v := if_pos ⟨rfl, rfl⟩
theorem sR_ne (h : PH) (a : Nat) {k j : Nat} (v : Option Nat) (e : j ≠ k) : hR (sR h a k v) a j = hR h a j := if_neg fun z => e z.1
theorem sR_na (h : PH) {a b : Nat} (k j : Nat) (v : Option Nat) (e : b ≠ a) : hR (sR h a k v) b j = hR h b j := if_neg fun z => e z.2
theorem Ac.hI {b : Nat} {h h' : PH} (a : Ac b h h') (k : Nat) : hI h' b k = hI h b k := (a.2 k).1
theorem Ac.hR {b : Nat} {h h' : PH} (a : Ac b h h') (k : Nat) : hR h' b k = hR h b k := (a.2 k).2.2.2
theorem BZ.ac {h h' : PH} {o : Nat} (q : BZ h o) (e : ∀ k, hI h' o k = hI h o k) : BZ h' o := by
  unfold BZ at q ⊢
  rw [e, e, e, e, e, e, e, e, e, e, e, e, e]
  exact q
section NewBank
variable {l : Launch} {x : CX} {h : PH} {o nc nf nr m c : Nat} {f t ct rt : Nat → Int32}
theorem k_initCar {a : Nat} (hk : (hK h a).1 = 2) : CV l x mX2_init 1 0 0 [.ref a] h (fun h' => Fr1 a h h') :=
  Cm.of (by decide) (Nat.le_of_ble_eq_true rfl) (vX2_init_0 ⟨hk, rfl, (((((((((((((((Fr1.refl a h).sI _ _).sI _ _).sI _ _).sI _ _).sI _ _).sI _ _).sI _ _).sF _ _).sI _ _).sI _ _).sI _ _).sL _ _).sL _ _).sI _ _).sI _ _⟩)
theorem k_initRider {a : Nat} (hk : (hK h a).1 = 6) : CV l x mX6_init 1 0 0 [.ref a] h (fun h' => Fr1 a h h') :=
  Cm.of (by decide) (Nat.le_of_ble_eq_true rfl) (vX6_init_0 ⟨hk, rfl, ((((((((((Fr1.refl a h).sI _ _).sI _ _).sI _ _).sI _ _).sI _ _).sI _ _).sI _ _).sI _ _).sI _ _).sI _ _⟩)
/-- a Bank under way: c cars, r riders stand -/
def BW (h0 : PH) (o c r : Nat) (h : PH) : Prop := hN h = o + 4 + c + r ∧ (∀ b, b < o → Ac b h0 h) ∧ (hK h o).1 = 1 ∧ BZ h o ∧ hR h o 13 = some (o + 1) ∧ hK h (o + 1) = (105, 4) ∧ hR h o 14 = some (o + 2) ∧ hK h (o + 2) = (106, 24) ∧ hR h o 15 = some (o + 3) ∧ (hK h (o + 3)).1 = 2 ∧ (∀ c', c' < c → hR h (o + 1) c' = some (o + 4 + c') ∧ (hK h (o + 4 + c')).1 = 2) ∧ ∀ r', r' < r → hR h (o + 2) r' = some (o + 8 + r') ∧ (hK h (o + 8 + r')).1 = 6
theorem BW.step {h0 h h1 : PH} {c r : Nat} (q : BW h0 o c r h) (e : hN h1 = hN h + 1) (a : ∀ b, b < hN h → b ≠ o + 1 → b ≠ o + 2 → Ac b h h1) (k1 : hK h1 (o + 1) = hK h (o + 1)) (k2 : hK h1 (o + 2) = hK h (o + 2)) (r1 : ∀ j, j < c → hR h1 (o + 1) j = hR h (o + 1) j) (r2 : ∀ j, j < r → hR h1 (o + 2) j = hR h (o + 2) j) (hr : r = 0 ∨ c = 4) : (∀ b, b < o → Ac b h0 h1) ∧ (hK h1 o).1 = 1 ∧ BZ h1 o ∧ hR h1 o 13 = some (o + 1) ∧ hK h1 (o + 1) = (105, 4) ∧ hR h1 o 14 = some (o + 2) ∧ hK h1 (o + 2) = (106, 24) ∧ hR h1 o 15 = some (o + 3) ∧ (hK h1 (o + 3)).1 = 2 ∧ (∀ c', c' < c → hR h1 (o + 1) c' = some (o + 4 + c') ∧ (hK h1 (o + 4 + c')).1 = 2) ∧ ∀ r', r' < r → hR h1 (o + 2) r' = some (o + 8 + r') ∧ (hK h1 (o + 8 + r')).1 = 6 := by
  obtain ⟨q1, q2, q3, q4, q5, q6, q7, q8, q9, q10, q11, q12⟩ := q
  have ao := a o (by omega) (by omega) (by omega)
  refine ⟨fun b hb => (q2 b hb).trans (a b (by omega) (by omega) (by omega)), ?_, q4.ac ao.hI, ?_, k1.trans q6, ?_, k2.trans q8, ?_, ?_, fun c' hc' => ⟨(r1 c' hc').trans (q11 c' hc').1, ?_⟩, fun r' hr' => ⟨(r2 r' hr').trans (q12 r' hr').1, ?_⟩⟩
  · rw [ao.1]; exact q3
  · rw [ao.hR]; exact q5
  · rw [ao.hR]; exact q7
  · rw [ao.hR]; exact q9
  · rw [(a (o + 3) (by omega) (by omega) (by omega)).1]; exact q10
  · rw [(a (o + 4 + c') (by omega) (by omega) (by omega)).1]; exact (q11 c' hc').2
  · rw [(a (o + 8 + r') (by omega) (by omega) (by omega)).1]; exact (q12 r' hr').2
theorem k_initBank (O : XN x) (hk : (hK h o).1 = 1) (hn : hN h = o + 1) : CV l x mX1_init 2 31 343 [.ref o] h (fun h' => hN h' = o + 32 ∧ (∀ b, b < o → Ac b h h') ∧ BS h' o ∧ BZ h' o) := by
  have l126 : ∀ (i r : Nat) (h' : PH) (rc rs : Nat), r + i = 24 → i ≤ rc → 10 * i ≤ rs → BW h o 4 r h' → Gm l x mX1_init 2 126 [(0, .ref o), (1, .int (nI r))] [] h' rc rs (hN h) (fun v h' => v = none ∧ hN h' = o + 32 ∧ (∀ b, b < o → Ac b h h') ∧ BS h' o ∧ BZ h' o) (fun _ _ => False) := by
    intro i
    induction i with
    | zero =>
      intro r h' rc rs hr _ _ q
      obtain rfl : r = 24 := by omega
      obtain ⟨q1, q2, q3, q4, q5, q6, q7, q8, q9, q10, q11, q12⟩ := q
      exact vX1_init_126 ⟨fun _ => ⟨rfl, by omega, q2, ⟨q3, q5, q6, q11, q7, q8, q12, q9, q10⟩, q4⟩, fun z => absurd (by decide) z⟩
    | succ i ih =>
      intro r h' rc rs hr h1 h2 q
      have q' := q
      obtain ⟨q1, q2, q3, q4, q5, q6, q7, q8, q9, q10, q11, q12⟩ := q
      refine vX1_init_126 ⟨fun z => absurd z (nI_ge (b := 24) (by omega) (by decide)), fun _ => ⟨q3, o + 2, q7, by omega, by omega, ?_⟩⟩
      rintro h7 rfl
      refine ⟨O.n_RX1_69, _, k_initRider (by rw [nw_K]), ?_⟩
      intro h10 p10
      have e10 : hK h10 (hN h') = (6, 0) := by rw [p10.hK, nw_K]
      have A : ∀ b, b < hN h' → Ac b h' h10 := fun b hb => (nw_Ac (by omega)).trans (p10.ac (by omega))
      have k2 : hK h10 (o + 2) = (106, 24) := (A (o + 2) (by omega)).1.trans q8
      refine ⟨by rw [k2], by rw [k2]; exact vp_in_nI (by omega) (by decide), by rw [e10], ?_⟩
      rw [nI_clamp (by omega), nI_1]
      have n10 : hN h10 = hN h' + 1 := p10.hN.trans (hN_nw _ _)
      refine ih (r + 1) _ _ _ (by omega) (by omega) (by omega) ?_
      obtain ⟨z1, z2, z3, z4, z5, z6, z7, z8, z9, z10, z11⟩ := q'.step (h1 := sR h10 (o + 2) r (some (hN h'))) n10 (fun b hb h1 h2 => (A b hb).trans (sR_Ac h2)) (A (o + 1) (by omega)).1 (A (o + 2) (by omega)).1 (fun j hj => (sR_na _ _ _ _ (by omega)).trans ((A (o + 1) (by omega)).hR j)) (fun j hj => (sR_ne _ _ _ (by omega)).trans ((A (o + 2) (by omega)).hR j)) (Or.inr rfl)
      refine ⟨?_, z1, z2, z3, z4, z5, z6, z7, z8, z9, z10, fun r' hr' => ?_⟩
      · show hN h10 = _; omega
      · rcases Nat.lt_or_ge r' r with y | y
        · exact z11 r' y
        · obtain rfl : r' = r := by omega
          refine ⟨(sR_at _ _ _ _).trans (by rw [q1]), ?_⟩
          show (hK h10 (o + 8 + r')).1 = 6
          rw [show o + 8 + r' = hN h' by omega, e10]
  have l100 : ∀ (i c : Nat) (h' : PH) (rc rs : Nat), c + i = 4 → i + 24 ≤ rc → 15 * i + 240 ≤ rs → BW h o c 0 h' → Gm l x mX1_init 2 100 [(0, .ref o), (1, .int (nI c))] [] h' rc rs (hN h) (fun v h' => v = none ∧ hN h' = o + 32 ∧ (∀ b, b < o → Ac b h h') ∧ BS h' o ∧ BZ h' o) (fun _ _ => False) := by
    intro i
    induction i with
    | zero =>
      intro c h' rc rs hc h1 h2 q
      obtain rfl : c = 4 := by omega
      exact vX1_init_100 ⟨fun _ => l126 24 0 h' rc rs rfl (by omega) (by omega) q, fun z => absurd (by decide) z⟩
    | succ i ih =>
      intro c h' rc rs hc h1 h2 q
      have q' := q
      obtain ⟨q1, q2, q3, q4, q5, q6, q7, q8, q9, q10, q11, q12⟩ := q
      refine vX1_init_100 ⟨fun z => absurd z (nI_ge (b := 4) (by omega) (by decide)), fun _ => ⟨q3, o + 1, q5, by omega, by omega, ?_⟩⟩
      rintro h7 rfl
      refine ⟨O.n_RX1_64, _, k_initCar (by rw [nw_K]), ?_⟩
      intro h10 p10
      have e10 : hK h10 (hN h') = (2, 0) := by rw [p10.hK, nw_K]
      have A : ∀ b, b < hN h' → Ac b h' h10 := fun b hb => (nw_Ac (by omega)).trans (p10.ac (by omega))
      have k1 : hK h10 (o + 1) = (105, 4) := (A (o + 1) (by omega)).1.trans q6
      refine ⟨by rw [k1], by rw [k1]; exact vp_in_nI (by omega) (by decide), by rw [e10], ?_⟩
      rw [nI_clamp (by omega), nI_1]
      have n10 : hN h10 = hN h' + 1 := p10.hN.trans (hN_nw _ _)
      refine ih (c + 1) _ _ _ (by omega) (by omega) (by omega) ?_
      obtain ⟨z1, z2, z3, z4, z5, z6, z7, z8, z9, z10, z11⟩ := q'.step (h1 := sR h10 (o + 1) c (some (hN h'))) n10 (fun b hb h1 h2 => (A b hb).trans (sR_Ac h1)) (A (o + 1) (by omega)).1 (A (o + 2) (by omega)).1 (fun j hj => (sR_ne _ _ _ (by omega)).trans ((A (o + 1) (by omega)).hR j)) (fun j hj => absurd hj (Nat.not_lt_zero j)) (Or.inl rfl)
      refine ⟨?_, z1, z2, z3, z4, z5, z6, z7, z8, z9, fun c' hc' => ?_, fun r' z => absurd z (Nat.not_lt_zero r')⟩
      · show hN h10 = _; omega
      · rcases Nat.lt_or_ge c' c with y | y
        · exact z10 c' y
        · obtain rfl : c' = c := by omega
          refine ⟨(sR_at _ _ _ _).trans (by rw [q1]; congr 1), ?_⟩
          show (hK h10 (o + 4 + c')).1 = 2
          rw [show o + 4 + c' = hN h' by omega, e10]
  refine Cm.of (by decide) (Nat.le_of_ble_eq_true rfl) (vX1_init_0 ⟨hk, by decide, by decide, O.ao_Car, ?_⟩)
  rw [show (sI (sI (sI (sI (sI (sI (sI (sI (sI (sI (sI (sI (sI h o 0 8) o 1 0) o 2 0) o 3 2) o 4 0) o 5 1) o 6 0) o 7 0) o 8 0) o 9 (-1)) o 10 0) o 11 0) o 12 0) = clrB h o from rfl]
  have pz := clr_Fr h o
  have zz := clr_BZ h o
  generalize clrB h o = hz at pz zz
  have nz : hN hz = o + 1 := pz.hN.trans hn
  rintro h4 rfl
  rw [nz]
  have kz : hK (nw hz (105, 4)) o = hK h o := (nw_Ac (by omega)).1.trans (pz.hK o)
  refine ⟨by rw [kz]; exact hk, by decide, by decide, O.ao_Rider, ?_⟩
  rintro h9 rfl
  have n9 : hN (sR (nw hz (105, 4)) o 13 (some (o + 1))) = o + 2 := by show hN hz + 1 = _; omega
  rw [n9]
  have k9 : ∀ b, b < o + 2 → hK (nw (sR (nw hz (105, 4)) o 13 (some (o + 1))) (106, 24)) b = hK (nw hz (105, 4)) b := fun b hb => (nw_Ac (by omega)).1
  refine ⟨by rw [k9 o (by omega), kz]; exact hk, by decide, by decide, ?_⟩
  rintro h14 rfl
  have n14 : hN (sR (nw (sR (nw hz (105, 4)) o 13 (some (o + 1))) (106, 24)) o 14 (some (o + 2))) = o + 3 := by show hN hz + 1 + 1 = _; omega
  rw [n14]
  refine ⟨O.n_RX1_64, _, k_initCar (by rw [← n14, nw_K]), ?_⟩
  intro h17 p17
  generalize eA : sR (nw hz (105, 4)) o 13 (some (o + 1)) = hA at *
  generalize eB : sR (nw hA (106, 24)) o 14 (some (o + 2)) = hB at *
  have KA : ∀ b, hK hA b = hK (nw hz (105, 4)) b := fun b => by rw [← eA]; rfl
  have KB : ∀ b, hK hB b = hK (nw hA (106, 24)) b := fun b => by rw [← eB]; rfl
  have nA : hN hA = o + 2 := n9
  have nB : hN hB = o + 3 := n14
  have AcA : ∀ b, b < o → Ac b hz hA := fun b hb => by rw [← eA]; exact (nw_Ac (by omega)).trans (sR_Ac (by omega))
  have AcB : ∀ b, b < o → Ac b hA hB := fun b hb => by rw [← eB]; exact (nw_Ac (by omega)).trans (sR_Ac (by omega))
  have Ac17 : ∀ b, b < o + 3 → Ac b hB h17 := fun b hb => (nw_Ac (by omega)).trans (p17.ac (by omega))
  have ao : (hK h17 o).1 = 1 := by
    rw [(Ac17 o (by omega)).1, KB, (nw_Ac (by omega)).1, KA, kz]
    exact hk
  refine ⟨ao, l100 4 0 _ _ _ rfl (by decide) (by decide) ⟨?_, fun b hb => ?_, ao, ?_, ?_, ?_, ?_, ?_, sR_at _ _ _ _, ?_, fun c' z => absurd z (Nat.not_lt_zero c'), fun r' z => absurd z (Nat.not_lt_zero r')⟩⟩
  · show hN h17 = _
    rw [p17.hN, hN_nw]; omega
  · exact ((((pz.ac (by omega)).trans (AcA b hb)).trans (AcB b hb)).trans (Ac17 b (by omega))).trans (sR_Ac (by omega))
  · refine zz.ac fun k => ?_
    show hI h17 o k = _
    rw [(Ac17 o (by omega)).hI, ← eB]
    show hI (nw hA (106, 24)) o k = _
    rw [(nw_Ac (by omega)).hI, ← eA]
    show hI (nw hz (105, 4)) o k = _
    exact (nw_Ac (by omega)).hI k
  · rw [sR_ne _ _ _ (by decide), (Ac17 o (by omega)).hR, ← eB, sR_ne _ _ _ (by decide), (nw_Ac (by omega)).hR, ← eA]
    exact sR_at _ _ _ _
  · show hK h17 (o + 1) = _
    rw [(Ac17 (o + 1) (by omega)).1, KB, (nw_Ac (by omega)).1, KA, ← nz, nw_K]
  · rw [sR_ne _ _ _ (by decide), (Ac17 o (by omega)).hR, ← eB]
    exact sR_at _ _ _ _
  · show hK h17 (o + 2) = _
    rw [(Ac17 (o + 2) (by omega)).1, KB, ← nA, nw_K]
  · show (hK h17 (o + 3)).1 = 2
    rw [p17.hK, ← nB, nw_K]
end NewBank
