/-! THE REFERENCE: the row as the text tells -/
def bgF (t ct rt : Nat → Int32) (c r j : Nat) : Int32 :=
  if j = 2 then tellsT t 5 else if j = 3 then tellsT t 4 else if j = 4 then -1 else if j = 6 then t 2 else
  if 16 ≤ j ∧ j < 16 + 8 * c then (if (j - 16) % 8 = 0 ∨ (j - 16) % 8 = 6 then ct (3 * ((j - 16) / 8)) else if (j - 16) % 8 = 7 then ct (3 * ((j - 16) / 8) + 1) else if (j - 16) % 8 = 4 then 1 else 0) else
  if 48 ≤ j ∧ j < 48 + 9 * r then (if (j - 48) % 9 < 4 then rt (4 * ((j - 48) / 9) + (j - 48) % 9) else if (j - 48) % 9 = 5 ∨ (j - 48) % 9 = 7 ∨ (j - 48) % 9 = 8 then -1 else 0) else 0
theorem j_cases {j : Nat} (hj : j < 312) : j < 16 ∨ (∃ c k, c < 4 ∧ k < 8 ∧ j = 16 + 8 * c + k) ∨ (∃ r k, r < 24 ∧ k < 9 ∧ j = 48 + 9 * r + k) ∨ 264 ≤ j := by
  by_cases h1 : j < 16
  · exact Or.inl h1
  · by_cases h2 : j < 48
    · exact Or.inr (Or.inl ⟨(j - 16) / 8, (j - 16) % 8, by omega, by omega, by omega⟩)
    · by_cases h3 : j < 264
      · exact Or.inr (Or.inr (Or.inl ⟨(j - 48) / 9, (j - 48) % 9, by omega, by omega, by omega⟩))
      · exact Or.inr (Or.inr (Or.inr (by omega)))
section Begin
variable {l : Launch} {x : CX} {mo nc nf nr m : Nat} {h : PH} {f t ct rt : Nat → Int32}
theorem bg_c {c r c' k : Nat} (hc : c' < c) (hk : k < 8) : bgF t ct rt c r (16 + 8 * c' + k) = if k = 0 ∨ k = 6 then ct (3 * c') else if k = 7 then ct (3 * c' + 1) else if k = 4 then 1 else 0 := by
  unfold bgF
  rw [if_neg (by omega), if_neg (by omega), if_neg (by omega), if_neg (by omega), if_pos (by omega), show (16 + 8 * c' + k - 16) % 8 = k by omega, show (16 + 8 * c' + k - 16) / 8 = c' by omega]
theorem bg_c0 {c r c' k : Nat} (hc : c ≤ c') (h4 : c' < 4) (hk : k < 8) : bgF t ct rt c r (16 + 8 * c' + k) = 0 := by
  unfold bgF
  rw [if_neg (by omega), if_neg (by omega), if_neg (by omega), if_neg (by omega), if_neg (by omega), if_neg (by omega)]
theorem bg_r {c r r' k : Nat} (hc : c ≤ 4) (hr : r' < r) (hk : k < 9) : bgF t ct rt c r (48 + 9 * r' + k) = if k < 4 then rt (4 * r' + k) else if k = 5 ∨ k = 7 ∨ k = 8 then -1 else 0 := by
  unfold bgF
  rw [if_neg (by omega), if_neg (by omega), if_neg (by omega), if_neg (by omega), if_neg (by omega), if_pos (by omega), show (48 + 9 * r' + k - 48) % 9 = k by omega, show (48 + 9 * r' + k - 48) / 9 = r' by omega]
theorem bg_r0 {c r r' k : Nat} (hc : c ≤ 4) (hr : r ≤ r') : bgF t ct rt c r (48 + 9 * r' + k) = 0 := by
  unfold bgF
  rw [if_neg (by omega), if_neg (by omega), if_neg (by omega), if_neg (by omega), if_neg (by omega), if_neg (by omega)]
theorem bg_lo {c r j : Nat} (hj : j < 16) : bgF t ct rt c r j = if j = 2 then tellsT t 5 else if j = 3 then tellsT t 4 else if j = 4 then -1 else if j = 6 then t 2 else 0 := by
  unfold bgF
  rw [if_neg (show ¬ (16 ≤ j ∧ j < 16 + 8 * c) by omega), if_neg (show ¬ (48 ≤ j ∧ j < 48 + 9 * r) by omega)]
theorem bg_hi {c r j : Nat} (hc : c ≤ 4) (hr : r ≤ 24) (hj : 264 ≤ j) : bgF t ct rt c r j = 0 := by
  unfold bgF
  rw [if_neg (by omega), if_neg (by omega), if_neg (by omega), if_neg (by omega), if_neg (by omega), if_neg (by omega)]
/-- the reference's cells, and all that is told in them -/
def RX (mo : Nat) (t ct rt : Nat → Int32) (h : PH) : Prop := RW mo t ct h ∧ ∀ k, hI h (mo + 8) k = rt k
theorem c_begin (w : RX mo t ct rt h) (t1 : t 1 = nI nc) (hC : nc ≤ 4) (t2 : t 2 = nI nr) (hr : nr ≤ 20) : CV l x mX8_begin 1 0 0 [.ref mo] (NW mo h f) (fun h' => ∃ G, h' = NW mo h G ∧ ∀ j, j < 312 → G j = bgF t ct rt nc nr j) := by
  have w1 := w.1.1
  have w2 := w1.row 2 2 312 (by decide)
  have w4 := w1.row 4 4 7 (by decide)
  have w6 := w1.row 6 6 12 (by decide)
  have w8 := w1.row 8 8 80 (by decide)
  have vi : ∀ k : Nat, k < 312 → vp_in (nI k) (hK h (mo + 2)).2 := fun k hk => by rw [w2.2.2]; exact vp_in_nI hk (by decide)
  have v4 : ∀ k : Nat, k < 7 → vp_in (nI k) (hK h (mo + 4)).2 := fun k hk => by rw [w4.2.2]; exact vp_in_nI hk (by decide)
  have told : ∀ (G : Nat → Int32) k, hI (NW mo h G) (mo + 4) k = t k := fun G k => (toldI k).trans (w.1.2.1 k)
  have cart : ∀ (G : Nat → Int32) k, hI (NW mo h G) (mo + 6) k = ct k := fun G k => by rw [hI_rw, if_neg (by omega)]; exact w.1.2.2 k
  have ridt : ∀ (G : Nat → Int32) k, hI (NW mo h G) (mo + 8) k = rt k := fun G k => by rw [hI_rw, if_neg (by omega)]; exact w.2 k
  have telE : ∀ (G : Nat → Int32) k, tellsT (hI (NW mo h G) (mo + 4)) k = tellsT t k := fun G k => by
    unfold tellsT
    rw [told]
  have lR : ∀ (j r : Nat) (G : Nat → Int32), r + j = nr → (∀ j, j < 312 → G j = bgF t ct rt nc r j) → Gm l x mX8_begin 1 137 [(0, .ref mo), (1, .int (nI r))] [] (NW mo h G) 0 0 (hN (NW mo h f)) (fun v h' => v = none ∧ ∃ G, h' = NW mo h G ∧ ∀ j, j < 312 → G j = bgF t ct rt nc nr j) (fun _ _ => False) := by
    intro j
    induction j with
    | zero =>
      intro r G hj hG
      obtain rfl : r = nr := by omega
      refine vX8_begin_137 ⟨w1.1, mo + 4, w4.1, w4.2.1, v4 2 (by omega), fun _ => ⟨rfl, G, rfl, hG⟩, fun e => absurd ?_ e⟩
      rw [told]
      show t 2 ≤ _
      rw [t2]
      exact nI_le (Nat.le_refl _) (by omega)
    | succ j ih =>
      intro r G hj hG
      refine vX8_begin_137 ⟨w1.1, mo + 4, w4.1, w4.2.1, v4 2 (by omega), fun e => absurd e ?_, fun _ => ?_⟩
      · rw [told]
        show ¬ t 2 ≤ _
        rw [t2]
        exact nI_ge (by omega) (by omega)
      have inner : ∀ (i k : Nat) (G : Nat → Int32), k + i = 4 → (∀ j, j < 312 → G j = if 48 + 9 * r ≤ j ∧ j < 48 + 9 * r + k then rt (4 * r + (j - (48 + 9 * r))) else bgF t ct rt nc r j) → Gm l x mX8_begin 1 149 [(0, .ref mo), (1, .int (nI r)), (2, .int (nI k))] [] (NW mo h G) 0 0 (hN (NW mo h f)) (fun v h' => v = none ∧ ∃ G, h' = NW mo h G ∧ ∀ j, j < 312 → G j = bgF t ct rt nc nr j) (fun _ _ => False) := by
        intro i
        induction i with
        | zero =>
          intro k G hk hG
          obtain rfl : k = 4 := by omega
          refine vX8_begin_149 ⟨fun _ => ⟨w1.1, _, c_put (k := 5) w1 (by omega) (by decide), ?_⟩, fun e => absurd (by decide) e⟩
          rintro _ rfl
          refine ⟨w1.1, _, c_put (k := 7) w1 (by omega) (by decide), ?_⟩
          rintro _ rfl
          refine ⟨w1.1, _, c_put (k := 8) w1 (by omega) (by decide), ?_⟩
          rintro _ rfl
          rw [nI_1]
          refine ih (r + 1) _ (by omega) fun j9 hj9 => ?_
          rcases j_cases hj9 with z | ⟨c', k', z1, z2, rfl⟩ | ⟨r', k', z1, z2, rfl⟩ | z
          · rw [up_ne (by omega), up_ne (by omega), up_ne (by omega), hG _ hj9, if_neg (by omega), bg_lo z, bg_lo z]
          · rw [up_ne (by omega), up_ne (by omega), up_ne (by omega), hG _ hj9, if_neg (by omega)]
            by_cases y : c' < nc
            · rw [bg_c y z2, bg_c y z2]
            · rw [bg_c0 (by omega) z1 z2, bg_c0 (by omega) z1 z2]
          · by_cases y : r' = r
            · subst y
              rw [bg_r hC (by omega) z2]
              by_cases k8 : k' = 8
              · subst k8
                rw [up_eq, if_neg (by omega), if_pos (by omega)]
              · rw [up_ne (by omega)]
                by_cases k7 : k' = 7
                · subst k7
                  rw [up_eq, if_neg (by omega), if_pos (by omega)]
                · rw [up_ne (by omega)]
                  by_cases k5 : k' = 5
                  · subst k5
                    rw [up_eq, if_neg (by omega), if_pos (by omega)]
                  · rw [up_ne (by omega), hG _ hj9]
                    by_cases k4 : k' < 4
                    · rw [if_pos (by omega), if_pos k4, show 48 + 9 * r' + k' - (48 + 9 * r') = k' by omega]
                    · rw [if_neg (by omega), if_neg k4, if_neg (by omega), bg_r0 hC (Nat.le_refl _)]
            · rw [up_ne (by omega), up_ne (by omega), up_ne (by omega), hG _ hj9, if_neg (by omega)]
              by_cases y2 : r' < r
              · rw [bg_r hC y2 z2, bg_r hC (by omega) z2]
              · rw [bg_r0 hC (by omega), bg_r0 hC (by omega)]
          · rw [up_ne (by omega), up_ne (by omega), up_ne (by omega), hG _ hj9, if_neg (by omega), bg_hi hC (by omega) z, bg_hi hC (by omega) z]
        | succ i ih2 =>
          intro k G hk hG
          have ei : (4 : Int32) * nI r + nI k = nI (4 * r + k) := by rw [n4, nI_add]
          refine vX8_begin_149 ⟨fun e => absurd e (nI_ge (b := 4) (by omega) (by decide)), fun _ => ⟨w1.1, mo + 8, w8.1, w8.2.1, ?_, ?_⟩⟩
          · show vp_in _ (hK h (mo + 8)).2
            rw [w8.2.2, ei]
            exact vp_in_nI (by omega) (by decide)
          rw [ei, nI_clamp (by omega), ridt]
          refine ⟨_, c_put (k := k) w1 (by omega) (by omega), ?_⟩
          rintro _ rfl
          rw [nI_1]
          refine ih2 (k + 1) _ (by omega) fun j9 hj9 => ?_
          by_cases y : j9 = 48 + 9 * r + k
          · rw [y, up_eq, if_pos (by omega), show 48 + 9 * r + k - (48 + 9 * r) = k by omega]
          · rw [up_ne y, hG j9 hj9]
            by_cases y2 : 48 + 9 * r ≤ j9 ∧ j9 < 48 + 9 * r + k
            · rw [if_pos y2, if_pos (by omega)]
            · rw [if_neg y2, if_neg (by omega)]
      exact inner 4 0 G rfl fun j hj => by rw [if_neg (by omega)]; exact hG j hj
  have lC : ∀ (j c : Nat) (G : Nat → Int32), c + j = nc → (∀ j, j < 312 → G j = bgF t ct rt c 0 j) → Gm l x mX8_begin 1 66 [(0, .ref mo), (1, .int (nI c))] [] (NW mo h G) 0 0 (hN (NW mo h f)) (fun v h' => v = none ∧ ∃ G, h' = NW mo h G ∧ ∀ j, j < 312 → G j = bgF t ct rt nc nr j) (fun _ _ => False) := by
    intro j
    induction j with
    | zero =>
      intro c G hj hG
      obtain rfl : c = nc := by omega
      refine vX8_begin_66 ⟨w1.1, mo + 4, w4.1, w4.2.1, v4 1 (by omega), fun _ => lR nr 0 G (by omega) hG, fun e => absurd ?_ e⟩
      rw [told]
      show t 1 ≤ _
      rw [t1]
      exact nI_le (Nat.le_refl _) (by omega)
    | succ j ih =>
      intro c G hj hG
      have e3 : (3 : Int32) * nI c = nI (3 * c) := by
        show nI 3 * nI c = _
        rw [nI_mul]
      have e31 : nI (3 * c) + 1 = nI (3 * c + 1) := nI_1 _
      have v6 : ∀ k, k < 12 → vp_in (nI k) (hK h (mo + 6)).2 := fun k hk => by rw [w6.2.2]; exact vp_in_nI hk (by decide)
      refine vX8_begin_66 ⟨w1.1, mo + 4, w4.1, w4.2.1, v4 1 (by omega), fun e => absurd e ?_, fun _ => ⟨mo + 6, w6.1, w6.2.1, by rw [e3]; exact v6 _ (by omega), ?_⟩⟩
      · rw [told]
        show ¬ t 1 ≤ _
        rw [t1]
        exact nI_ge (by omega) (by omega)
      rw [e3, e31, nI_clamp (by omega), cart]
      refine ⟨_, c_putCar (k := 0) w1 (by omega) (by decide), ?_⟩
      rintro _ rfl
      refine ⟨w1.1, mo + 6, w6.1, w6.2.1, v6 _ (by omega), ?_⟩
      rw [cart]
      refine ⟨_, c_putCar (k := 6) w1 (by omega) (by decide), ?_⟩
      rintro _ rfl
      refine ⟨w1.1, mo + 6, w6.1, w6.2.1, v6 _ (by omega), ?_⟩
      rw [nI_clamp (by omega), cart]
      refine ⟨_, c_putCar (k := 7) w1 (by omega) (by decide), ?_⟩
      rintro _ rfl
      refine ⟨w1.1, _, c_putCar (k := 4) w1 (by omega) (by decide), ?_⟩
      rintro _ rfl
      rw [nI_1]
      refine ih (c + 1) _ (by omega) fun j9 hj9 => ?_
      rcases j_cases hj9 with z | ⟨c', k', z1, z2, rfl⟩ | ⟨r', k', z1, z2, rfl⟩ | z
      · rw [up_ne (by omega), up_ne (by omega), up_ne (by omega), up_ne (by omega), hG _ hj9, bg_lo z, bg_lo z]
      · by_cases y : c' = c
        · subst y
          rw [bg_c (by omega) z2]
          by_cases k4 : k' = 4
          · subst k4
            rw [up_eq, if_neg (by omega), if_neg (by omega), if_pos rfl]
          · rw [up_ne (by omega)]
            by_cases k7 : k' = 7
            · subst k7
              rw [up_eq, if_neg (by omega), if_pos rfl]
            · rw [up_ne (by omega)]
              by_cases k6 : k' = 6
              · subst k6
                rw [up_eq, if_pos (by omega)]
              · rw [up_ne (by omega)]
                by_cases k0 : k' = 0
                · subst k0
                  rw [up_eq, if_pos (by omega)]
                · rw [up_ne (by omega), hG _ hj9, bg_c0 (Nat.le_refl _) z1 z2, if_neg (by omega), if_neg k7, if_neg k4]
        · rw [up_ne (by omega), up_ne (by omega), up_ne (by omega), up_ne (by omega), hG _ hj9]
          by_cases y2 : c' < c
          · rw [bg_c y2 z2, bg_c (by omega) z2]
          · rw [bg_c0 (by omega) z1 z2, bg_c0 (by omega) z1 z2]
      · rw [up_ne (by omega), up_ne (by omega), up_ne (by omega), up_ne (by omega), hG _ hj9, bg_r0 (by omega) (by omega), bg_r0 (by omega) (by omega)]
      · rw [up_ne (by omega), up_ne (by omega), up_ne (by omega), up_ne (by omega), hG _ hj9, bg_hi (by omega) (by omega) z, bg_hi (by omega) (by omega) z]
  have lZ : ∀ (j i : Nat) (G : Nat → Int32), i + j = 312 → (∀ j, j < i → G j = 0) → Gm l x mX8_begin 1 2 [(0, .ref mo), (1, .int (nI i))] [] (NW mo h G) 0 0 (hN (NW mo h f)) (fun v h' => v = none ∧ ∃ G, h' = NW mo h G ∧ ∀ j, j < 312 → G j = bgF t ct rt nc nr j) (fun _ _ => False) := by
    intro j
    induction j with
    | zero =>
      intro i G hi hG
      obtain rfl : i = 312 := by omega
      refine vX8_begin_2 ⟨fun _ => ⟨w1.1, mo + 2, w2.1, _, c_tells (k := 5) (g := NW mo h G) w1 (by decide), ?_⟩, fun e => absurd (by decide) e⟩
      rintro _ _ ⟨rfl, rfl⟩
      rw [telE, sI_rws]
      refine ⟨w2.2.1, vi 2 (by omega), w1.1, mo + 2, w2.1, _, c_tells (k := 4) (g := NW mo h (up G 2 (tellsT t 5))) w1 (by decide), ?_⟩
      rintro _ _ ⟨rfl, rfl⟩
      rw [telE, sI_rws]
      refine ⟨w2.2.1, vi 3 (by omega), w1.1, mo + 2, w2.1, w2.2.1, vi 4 (by omega), mo + 4, w4.1, w4.2.1, v4 2 (by omega), vi 6 (by omega), ?_⟩
      rw [sI_rws, told, sI_rws]
      refine lC nc 0 _ (by omega) fun j9 hj9 => ?_
      show up (up (up (up G 2 (tellsT t 5)) 3 (tellsT t 4)) 4 (-1)) 6 (t 2) j9 = _
      by_cases j6 : j9 = 6
      · subst j6
        rw [up_eq, bg_lo (by omega)]; rfl
      · rw [up_ne j6]
        by_cases j4 : j9 = 4
        · subst j4
          rw [up_eq, bg_lo (by omega)]; rfl
        · rw [up_ne j4]
          by_cases j3 : j9 = 3
          · subst j3
            rw [up_eq, bg_lo (by omega)]; rfl
          · rw [up_ne j3]
            by_cases j2 : j9 = 2
            · subst j2
              rw [up_eq, bg_lo (by omega)]; rfl
            · rw [up_ne j2, hG j9 hj9]
              unfold bgF
              rw [if_neg j2, if_neg j3, if_neg j4, if_neg j6, if_neg (by omega), if_neg (by omega)]
    | succ j ih =>
      intro i G hi hG
      refine vX8_begin_2 ⟨fun e => absurd e (nI_ge (b := 312) (by omega) (by decide)), fun _ => ⟨w1.1, mo + 2, w2.1, w2.2.1, vi i (by omega), ?_⟩⟩
      rw [nI_clamp (by omega), sI_rws, nI_1]
      refine ih (i + 1) _ (by omega) fun j9 hj9 => ?_
      by_cases y : j9 = i
      · rw [y, up_eq]
      · rw [up_ne y]; exact hG j9 (by omega)
  exact Cm.of (by decide) (Nat.le_of_ble_eq_true rfl) (vX8_begin_0 (lZ 312 0 f rfl fun j z => absurd z (Nat.not_lt_zero j)))
end Begin
