/-! THE CLASS: riders overtaken; how many calls -/
section OvK
variable {l : Launch} {x : CX} {h : PH} {o nc nf nr m c : Nat} {f t ct rt : Nat → Int32}
def alk (f : Nat → Int32) (a b : Nat) : Prop := f (48 + 9 * a + 2) = f (48 + 9 * b + 2) ∧ f (48 + 9 * a) = f (48 + 9 * b) ∧ (f (48 + 9 * a + 3) ≤ f (48 + 9 * a + 2) ↔ f (48 + 9 * b + 3) ≤ f (48 + 9 * b + 2))
theorem k_goAlike {p q a b : Nat} (P : RO h p f a) (Q' : RO h q f b) (kp : (hK h p).1 = 6) (kq : (hK h q).1 = 6) : CI l x mX1_goAlike 0 0 0 [.ref p, .ref q] h (fun r h' => (¬ r = 0 ↔ alk f a b) ∧ h' = h) := by
  refine Cm.of (by decide) (Nat.le_of_ble_eq_true rfl) (vX1_goAlike_0 ⟨kp, kq, ?_⟩)
  rw [P.fr, P.to, P.so, Q'.fr, Q'.to, Q'.so]
  have key : ∀ v : Int32, v = (if f (48 + 9 * a + 2) = f (48 + 9 * b + 2) then (if f (48 + 9 * a + 3) ≤ f (48 + 9 * a + 2) then (if f (48 + 9 * b + 3) ≤ f (48 + 9 * b + 2) then (if f (48 + 9 * a) = f (48 + 9 * b) then 1 else 0 : Int32) else 0 : Int32) else (if f (48 + 9 * b + 3) ≤ f (48 + 9 * b + 2) then 0 else (if f (48 + 9 * a) = f (48 + 9 * b) then 1 else 0 : Int32) : Int32) : Int32) else 0 : Int32) → (v = 0 ∨ v = 1) ∧ (¬ v = 0 ↔ alk f a b) := by
    rintro v rfl
    unfold alk
    by_cases e1 : f (48 + 9 * a + 2) = f (48 + 9 * b + 2)
    · rw [if_pos e1]
      by_cases e2 : f (48 + 9 * a + 3) ≤ f (48 + 9 * a + 2)
      · rw [if_pos e2]
        by_cases e3 : f (48 + 9 * b + 3) ≤ f (48 + 9 * b + 2)
        · rw [if_pos e3]
          by_cases e4 : f (48 + 9 * a) = f (48 + 9 * b)
          · rw [if_pos e4]
            exact ⟨Or.inr rfl, fun _ => ⟨e1, e4, fun _ => e3, fun _ => e2⟩, fun _ => by decide⟩
          · rw [if_neg e4]
            exact ⟨Or.inl rfl, fun z => absurd rfl z, fun z => absurd z.2.1 e4⟩
        · rw [if_neg e3]
          exact ⟨Or.inl rfl, fun z => absurd rfl z, fun z => absurd (z.2.2.mp e2) e3⟩
      · rw [if_neg e2]
        by_cases e3 : f (48 + 9 * b + 3) ≤ f (48 + 9 * b + 2)
        · rw [if_pos e3]
          exact ⟨Or.inl rfl, fun z => absurd rfl z, fun z => absurd (z.2.2.mpr e3) e2⟩
        · rw [if_neg e3]
          by_cases e4 : f (48 + 9 * a) = f (48 + 9 * b)
          · rw [if_pos e4]
            exact ⟨Or.inr rfl, fun _ => ⟨e1, e4, fun z => absurd z e2, fun z => absurd z e3⟩, fun _ => by decide⟩
          · rw [if_neg e4]
            exact ⟨Or.inl rfl, fun z => absurd rfl z, fun z => absurd z.2.1 e4⟩
    · rw [if_neg e1]
      exact ⟨Or.inl rfl, fun z => absurd rfl z, fun z => absurd z.1 e1⟩
  obtain ⟨k1, k2⟩ := key _ rfl
  exact ⟨k1, _, rfl, k2, rfl⟩
/-- what a pair counts in the class -/
theorem pair_1 {a b : Nat} (hab : a < b) (ht : ¬ f (48 + 9 * b + 1) < f (48 + 9 * a + 1)) : ovN f b a = 0 ∧ (ovP f a b ↔ alk f a b ∧ ¬ f (48 + 9 * b + 8) = -1 ∧ ¬ f (48 + 9 * a + 8) ≤ f (48 + 9 * b + 8)) := by
  have tt : f (48 + 9 * a + 1) < f (48 + 9 * b + 1) ∨ f (48 + 9 * a + 1) = f (48 + 9 * b + 1) := by
    rw [Int32.lt_iff_toInt_lt] at ht ⊢
    rcases Int.lt_or_eq_of_le (Int.not_lt.mp ht) with z | z
    · exact Or.inl z
    · exact Or.inr (Int32.toInt_inj.mp z)
  refine ⟨ovN_0 fun z => ?_, fun z => ⟨⟨z.1, z.2.1, z.2.2.1⟩, z.2.2.2.2.1, z.2.2.2.2.2⟩, fun z => ⟨z.1.1, z.1.2.1, z.1.2.2, tt.imp id fun y => ⟨y, hab⟩, z.2.1, z.2.2⟩⟩
  rcases z.2.2.2.1 with y | y
  · exact ht y
  · omega
theorem pair_2 {a b : Nat} (ht : f (48 + 9 * b + 1) < f (48 + 9 * a + 1)) : ovN f a b = 0 ∧ (ovP f b a ↔ alk f b a ∧ ¬ f (48 + 9 * a + 8) = -1 ∧ ¬ f (48 + 9 * b + 8) ≤ f (48 + 9 * a + 8)) := by
  refine ⟨ovN_0 fun z => ?_, fun z => ⟨⟨z.1, z.2.1, z.2.2.1⟩, z.2.2.2.2.1, z.2.2.2.2.2⟩, fun z => ⟨z.1.1, z.1.2.1, z.1.2.2, Or.inl ht, z.2.1, z.2.2⟩⟩
  rw [Int32.lt_iff_toInt_lt] at ht
  rcases z.2.2.2.1 with y | y
  · rw [Int32.lt_iff_toInt_lt] at y
    omega
  · rw [y.1] at ht
    omega
theorem k_overtaken (P : PO h o nr f) (h24 : nr ≤ 24) : CI l x mX1_overtaken 1 0 0 [.ref o] h (fun v h' => v = nI (ovS f nr) ∧ h' = h) := by
  obtain ⟨S, hn, hr⟩ := P
  unfold ovS
  rw [← sm_pairs (ovN f) (ovN_self f) nr]
  have loop : ∀ (j a : Nat), a + j = nr → Gm l x mX1_overtaken 1 4 [(0, .ref o), (1, .int (nI (sm (fun a => sm (fun b => if a < b then ovN f a b + ovN f b a else 0) nr) a))), (2, .int (nI a))] [] h 0 0 (hN h) (fun v h' => ∃ r, v = some (.int r) ∧ r = nI (sm (fun a => sm (fun b => if a < b then ovN f a b + ovN f b a else 0) nr) nr) ∧ h' = h) (fun _ _ => False) := by
    intro j
    induction j with
    | zero =>
      intro a ha
      obtain rfl : a = nr := by omega
      refine vX1_overtaken_4 ⟨S.k, fun _ => ⟨_, rfl, rfl, rfl⟩, fun z => absurd ?_ z⟩
      rw [hn]
      exact nI_le (Nat.le_refl _) (by omega)
    | succ j ih =>
      intro a ha
      refine vX1_overtaken_4 ⟨S.k, fun z => absurd z ?_, fun _ => ?_⟩
      · rw [hn]
        exact nI_ge (by omega) (by omega)
      have inner : ∀ (i b : Nat), b + i = nr → a < b → Gm l x mX1_overtaken 1 16 [(0, .ref o), (1, .int (nI (sm (fun a => sm (fun b => if a < b then ovN f a b + ovN f b a else 0) nr) a + sm (fun b => if a < b then ovN f a b + ovN f b a else 0) b))), (2, .int (nI a)), (3, .int (nI b))] [] h 0 0 (hN h) (fun v h' => ∃ r, v = some (.int r) ∧ r = nI (sm (fun a => sm (fun b => if a < b then ovN f a b + ovN f b a else 0) nr) nr) ∧ h' = h) (fun _ _ => False) := by
        intro i
        induction i with
        | zero =>
          intro b hb hab
          obtain rfl : b = nr := by omega
          refine vX1_overtaken_16 ⟨S.k, fun _ => ?_, fun z => absurd ?_ z⟩
          · rw [nI_1]
            exact ih (a + 1) (by omega)
          · rw [hn]
            exact nI_le (Nat.le_refl _) (by omega)
        | succ i ih2 =>
          intro b hb hab
          have ra := hr a (by omega)
          have rb := hr b (by omega)
          have ka := (S.pr a (by omega))
          have kb := (S.pr b (by omega))
          have ia : vp_in (nI a) (hK h (o + 2)).2 := by rw [S.pk]; exact vp_in_nI (by omega) (by decide)
          have ib : vp_in (nI b) (hK h (o + 2)).2 := by rw [S.pk]; exact vp_in_nI (by omega) (by decide)
          have h1 := ih2 (b + 1) (by omega) (by omega)
          rw [sm, if_pos hab, ← Nat.add_assoc, ← nI_1] at h1
          generalize hX : sm (fun a => sm (fun b => if a < b then ovN f a b + ovN f b a else 0) nr) a + sm (fun b => if a < b then ovN f a b + ovN f b a else 0) b = X at h1 ⊢
          refine vX1_overtaken_16 ⟨S.k, fun z => absurd z ?_, fun _ => ⟨o + 2, S.p, by rw [S.pk], ia, o + 8 + a, by rw [nI_clamp (by omega)]; exact ka.1, ka.2, ib, o + 8 + b, by rw [nI_clamp (by omega)]; exact kb.1, kb.2, ?_⟩⟩
          · rw [hn]
            exact nI_ge (by omega) (by omega)
          rw [ra.co, rb.co]
          have ga : hR h (o + 2) (nI a).toNatClampNeg = some (o + 8 + a) := by rw [nI_clamp (by omega)]; exact ka.1
          have gb : hR h (o + 2) (nI b).toNatClampNeg = some (o + 8 + b) := by rw [nI_clamp (by omega)]; exact kb.1
          by_cases ht : f (48 + 9 * b + 1) < f (48 + 9 * a + 1)
          · rw [if_pos ht]
            obtain ⟨z1, z2⟩ := pair_2 ht
            rw [z1, Nat.zero_add] at h1
            have no : ¬ ovP f b a → Gm l x mX1_overtaken 1 16 [(0, .ref o), (1, .int (nI X)), (2, .int (nI a)), (3, .int (nI b + 1))] [] h 0 0 (hN h) (fun v h' => ∃ r, v = some (.int r) ∧ r = nI (sm (fun a => sm (fun b => if a < b then ovN f a b + ovN f b a else 0) nr) nr) ∧ h' = h) (fun _ _ => False) := fun y => by
              rw [ovN_0 y, Nat.add_zero] at h1
              exact h1
            refine ⟨fun _ => ⟨ib, o + 8 + b, gb, fun _ => ⟨ia, o + 8 + a, ga, _, k_goAlike rb ra kb.2 ka.2, ?_⟩, fun z => absurd rfl z⟩, fun z => absurd rfl z⟩
            rintro r _ ⟨hr', rfl⟩
            refine ⟨fun z => no fun y => hr'.mpr (z2.mp y).1 z, fun z => ⟨ka.2, ?_⟩⟩
            rw [ra.ta, rb.ta]
            refine ⟨fun y => no fun u => (z2.mp u).2.1 y, fun y => ⟨kb.2, ?_⟩⟩
            by_cases u : f (48 + 9 * b + 8) ≤ f (48 + 9 * a + 8)
            · rw [if_pos u]
              exact no fun q => (z2.mp q).2.2 u
            · rw [if_neg u, nI_1]
              rw [ovN_1 (z2.mpr ⟨hr'.mp z, y, u⟩)] at h1
              exact h1
          · rw [if_neg ht]
            obtain ⟨z1, z2⟩ := pair_1 hab ht
            rw [z1, Nat.add_zero] at h1
            have no : ¬ ovP f a b → Gm l x mX1_overtaken 1 16 [(0, .ref o), (1, .int (nI X)), (2, .int (nI a)), (3, .int (nI b + 1))] [] h 0 0 (hN h) (fun v h' => ∃ r, v = some (.int r) ∧ r = nI (sm (fun a => sm (fun b => if a < b then ovN f a b + ovN f b a else 0) nr) nr) ∧ h' = h) (fun _ _ => False) := fun y => by
              rw [ovN_0 y, Nat.add_zero] at h1
              exact h1
            refine ⟨fun z => absurd z (by decide), fun _ => ⟨ia, o + 8 + a, ga, fun z => absurd z (by decide), fun _ => ⟨ib, o + 8 + b, gb, _, k_goAlike ra rb ka.2 kb.2, ?_⟩⟩⟩
            rintro r _ ⟨hr', rfl⟩
            refine ⟨fun z => no fun y => hr'.mpr (z2.mp y).1 z, fun z => ⟨kb.2, ?_⟩⟩
            rw [ra.ta, rb.ta]
            refine ⟨fun y => no fun u => (z2.mp u).2.1 y, fun y => ⟨ka.2, ?_⟩⟩
            by_cases u : f (48 + 9 * a + 8) ≤ f (48 + 9 * b + 8)
            · rw [if_pos u]
              exact no fun q => (z2.mp q).2.2 u
            · rw [if_neg u, nI_1]
              rw [ovN_1 (z2.mpr ⟨hr'.mp z, y, u⟩)] at h1
              exact h1
      have h0 := inner (nr - (a + 1)) (a + 1) (by omega) (by omega)
      have e0 : sm (fun b => if a < b then ovN f a b + ovN f b a else 0) (a + 1) = 0 := by
        rw [sm_cong (k := fun _ => 0) (a + 1) (fun i hi => if_neg (by omega)), sm_0]
      rw [e0, Nat.add_zero, ← nI_1] at h0
      exact h0
  exact Cm.of (by decide) (Nat.le_of_ble_eq_true rfl) (vX1_overtaken_0 (loop nr 0 (by omega)))
/-- as many bits as calls -/
theorem calls_ct {v : Int64} (I : Inv ct nc nf nr m f) (hv : ∀ i, i < 64 → (bL v i = true ↔ wts f nr i)) : fb_ct (bL v) 64 = clN f nr (4 * nf) := by
  have hF := I.hF
  have key : ∀ i, i < 48 → (wts f nr i ↔ ¬ icA f (nI (i / 4)) (if i % 4 < 2 then 1 else -1) (nI (1 + i % 2)) nr = 0) := fun i hi => by
    refine wts_ic (fl := i / 4) (s := 1 + i % 2) ?_ (by omega) (by omega) (by omega) ?_
    · split
      · exact Or.inl rfl
      · exact Or.inr rfl
    · unfold kix
      by_cases z : i % 4 < 2
      · rw [if_pos z, if_neg (show ¬ (1 : Int32) ≤ 0 by decide)]; omega
      · rw [if_neg z, if_pos (show (-1 : Int32) ≤ 0 by decide)]; omega
  have none : ∀ i, 4 * nf ≤ i → ¬ wts f nr i := by
    rintro i hi ⟨r, h1, h2, w, s, h3, h4, h5, h6, h7, h8⟩
    obtain ⟨n, h9, h10⟩ := (I.rids r h1).we h2
    have e : w = n := (nI_eq (by omega) (by omega)).mp (h3.symm.trans h9)
    subst e
    unfold kix at h8
    split at h8 <;> omega
  rw [show 64 = 4 * nf + (64 - 4 * nf) by omega, fb_ct_split]
  have e0 : fb_ct (fun k => bL v (4 * nf + k)) (64 - 4 * nf) = 0 := fb_ct_zero.mpr fun k hk => by
    cases hb : bL v (4 * nf + k) with
    | false => rfl
    | true => exact absurd ((hv _ (by omega)).mp hb) (none _ (by omega))
  rw [e0, Nat.add_zero]
  unfold clN
  refine fb_ct_cong fun k hk => ?_
  cases hb : bL v k with
  | true => exact (decide_eq_true ((key k (by omega)).mp ((hv k (by omega)).mp hb))).symm
  | false => exact (decide_eq_false fun z => by
      rw [(hv k (by omega)).mpr ((key k (by omega)).mpr z)] at hb
      cases hb).symm
end OvK
