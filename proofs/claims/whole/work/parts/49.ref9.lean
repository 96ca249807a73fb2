/-! THE REFERENCE, NINTH PART: a car's step, fire, rows copied -/
def stepG (f : Nat → Int32) (c : Nat) : Nat → Int32 := if f (16 + 8 * c + 2) ≤ 0 then f else up f (16 + 8 * c + 2) (f (16 + 8 * c + 2) - 1)
def stepV (f : Nat → Int32) (nr nf c fl : Nat) : Int32 := if stepG f c (16 + 8 * c + 2) ≤ 0 then opensHereC (stepG f c) nr nf c fl else 0
def stepR (f t ct : Nat → Int32) (nr nf m c fl n : Nat) : Nat → Int32 :=
  if stepG f c (16 + 8 * c + 2) ≤ 0 then (if opensHereC (stepG f c) nr nf c fl = 0 then goesC (stepG f c) t nr nf m c fl n else opensC (stepG f c) t ct nr nf c fl) else stepG f c
def burnsC (f : Nat → Int32) (c nr n : Nat) : Nat → Int32 :=
  if f (16 + 8 * c) ≤ 0 then emptiesC (up (up f (16 + 8 * c + 2) 0) (16 + 8 * c + 1) 0) c nr else movesC (up (up f (16 + 8 * c + 2) 0) (16 + 8 * c + 1) (-1)) c n (-1)
def cpy (n : Nat) (u v : Nat → Int32) : Nat → Int32 := fun j => if j < n then u j else v j
theorem oh_01 (f : Nat → Int32) (nr nf c fl : Nat) : opensHereC f nr nf c fl = 0 ∨ opensHereC f nr nf c fl = 1 := by
  unfold opensHereC ohC ohB
  repeat' split
  all_goals first | exact Or.inl rfl | exact Or.inr rfl
theorem CVd.up {f : Nat → Int32} {c fl n k : Nat} {v : Int32} (hv : CVd f c fl n) (h0 : k ≠ 16 + 8 * c) (h3 : k ≠ 16 + 8 * c + 3) (h5 : k ≠ 16 + 8 * c + 5) : CVd (up f k v) c fl n := by
  obtain ⟨v1, v2, v3, v4, v5⟩ := hv
  exact ⟨(up_ne (Ne.symm h0)).trans v1, v2, by rw [up_ne (Ne.symm h3)]; exact v3, v4, by rw [up_ne (Ne.symm h5)]; exact v5⟩
section Ref9
variable {l : Launch} {x : CX} {mo : Nat} {h : PH} {f t ct : Nat → Int32}
theorem stepG_RV {nr nf m c : Nat} (hr : RV mo h f t nr nf m) : RV mo h (stepG f c) t nr nf m := by
  unfold stepG
  split
  · exact hr
  · exact hr.up (by omega) (by omega)
theorem stepG_CVd {c fl n : Nat} (hv : CVd f c fl n) : CVd (stepG f c) c fl n := by
  unfold stepG
  split
  · exact hv
  · exact hv.up (by omega) (by omega) (by omega)
theorem c_steps {nr nf m c fl n : Nat} (FB : FBits l x) (w : MW mo h) (hc : c < 4) (hr : RV mo h f t nr nf m) (hv : CVd f c fl n) (hct : ∀ k, hI h (mo + 6) k = ct k) : CI l x mX8_steps 6 0 0 [.ref mo, .int (nI c)] (NW mo h f) (fun v h' => v = stepV f nr nf c fl ∧ h' = NW mo h (stepR f t ct nr nf m c fl n)) := by
  have hr2 := stepG_RV (c := c) hr
  have hv2 := stepG_CVd hv
  have tail : ∀ g : Nat → Int32, stepG f c = g → g (16 + 8 * c + 2) ≤ 0 → (hK (NW mo h g) mo).1 = 8 ∧ ∃ q13 : Int32 → PH → Prop, CI l x mX8_opensHere 4 0 0 [.ref mo, .int (nI c)] (NW mo h g) q13 ∧ ∀ (r17 : Int32) (h16 : PH), q13 r17 h16 → ((r17 = 0 → (hK h16 mo).1 = 8 ∧ ∃ q19 : PH → Prop, CV l x mX8_goes 5 0 0 [.ref mo, .int (nI c)] h16 q19 ∧ ∀ h22 : PH, q19 h22 → (r17 = 0 ∨ r17 = 1) ∧ (∃ r, some (Value.int r17) = some (.int r) ∧ r = stepV f nr nf c fl ∧ h22 = NW mo h (stepR f t ct nr nf m c fl n))) ∧ (¬ r17 = 0 → (hK h16 mo).1 = 8 ∧ ∃ q23 : PH → Prop, CV l x mX8_opens 5 0 0 [.ref mo, .int (nI c)] h16 q23 ∧ ∀ h26 : PH, q23 h26 → (r17 = 0 ∨ r17 = 1) ∧ (∃ r, some (Value.int r17) = some (.int r) ∧ r = stepV f nr nf c fl ∧ h26 = NW mo h (stepR f t ct nr nf m c fl n)))) := by
    rintro _ rfl hle
    refine ⟨w.1, _, c_opensHere w hc hr2 hv2.1 hv2.2.1, ?_⟩
    rintro _ _ ⟨rfl, rfl⟩
    refine ⟨fun e => ⟨w.1, _, c_goes FB w hc hr2 hv2, ?_⟩, fun e => ⟨w.1, _, c_opens FB w hc hv2.1 hv2.2.1 hr2 hct hv2.2.2.2.2, ?_⟩⟩
    · rintro _ rfl
      exact ⟨oh_01 _ _ _ _ _, _, rfl, (if_pos hle).symm, by rw [stepR, if_pos hle, if_pos e]⟩
    · rintro _ rfl
      exact ⟨oh_01 _ _ _ _ _, _, rfl, (if_pos hle).symm, by rw [stepR, if_pos hle, if_neg e]⟩
  have stay : ∀ g : Nat → Int32, stepG f c = g → ¬ g (16 + 8 * c + 2) ≤ 0 → ((0 : Int32) = 0 ∨ (0 : Int32) = 1) ∧ (∃ r, some (Value.int 0) = some (.int r) ∧ r = stepV f nr nf c fl ∧ NW mo h g = NW mo h (stepR f t ct nr nf m c fl n)) := by
    rintro _ rfl hle
    exact ⟨by decide, _, rfl, (if_neg hle).symm, by rw [stepR, if_neg hle]⟩
  refine Cm.of (by decide) (Nat.le_of_ble_eq_true rfl) (vX8_steps_0 ⟨w.1, _, c_carOf (k := 2) w hc (by decide), ?_⟩)
  rintro _ _ ⟨rfl, rfl⟩
  refine ⟨fun e => ⟨w.1, _, c_carOf (k := 2) w hc (by decide), ?_⟩, fun e => ⟨w.1, _, c_carOf (k := 2) w hc (by decide), ?_⟩⟩
  · rintro _ _ ⟨rfl, rfl⟩
    exact ⟨fun _ => tail f (if_pos e) e, fun q => absurd e q⟩
  · rintro _ _ ⟨rfl, rfl⟩
    refine ⟨w.1, _, c_putCar (k := 2) w hc (by decide), ?_⟩
    rintro _ rfl
    refine ⟨w.1, _, c_carOf (k := 2) w hc (by decide), ?_⟩
    rintro _ _ ⟨rfl, rfl⟩
    exact ⟨fun e2 => tail _ (if_neg e) e2, fun e2 => stay _ (if_neg e) e2⟩
theorem c_burns {nr c fl n : Nat} (FB : FBits l x) (w : MW mo h) (hc : c < 4) (h6 : f 6 = nI nr) (hnr : nr ≤ 24) (hv : CVd f c fl n) : CV l x mX8_burns 4 0 0 [.ref mo, .int (nI c)] (NW mo h f) (fun h' => h' = NW mo h (burnsC f c nr n)) := by
  refine Cm.of (by decide) (Nat.le_of_ble_eq_true rfl) (vX8_burns_0 ⟨w.1, _, c_putCar (k := 2) w hc (by decide), ?_⟩)
  rintro _ rfl
  refine ⟨w.1, _, c_carOf (k := 0) w hc (by decide), ?_⟩
  rintro _ _ ⟨rfl, rfl⟩
  have e0 : up f (16 + 8 * c + 2) 0 (16 + 8 * c + 0) = f (16 + 8 * c) := up_ne (by omega)
  rw [e0]
  have hv2 : ∀ y : Int32, CVd (up (up f (16 + 8 * c + 2) 0) (16 + 8 * c + 1) y) c fl n := fun y => (hv.up (by omega) (by omega) (by omega)).up (by omega) (by omega) (by omega)
  have h62 : ∀ y : Int32, up (up f (16 + 8 * c + 2) 0) (16 + 8 * c + 1) y 6 = nI nr := fun y => (up_ne (by omega)).trans ((up_ne (by omega)).trans h6)
  refine ⟨fun e => ⟨w.1, _, c_putCar (k := 1) w hc (by decide), ?_⟩, fun e => ⟨w.1, _, c_putCar (k := 1) w hc (by decide), ?_⟩⟩
  · rintro _ rfl
    refine ⟨w.1, _, c_empties w hc (h62 0) hnr, ?_⟩
    rintro _ rfl
    exact ⟨rfl, by rw [burnsC, if_pos e]⟩
  · rintro _ rfl
    refine ⟨w.1, _, c_moves FB w hc (hv2 (-1)).2.2.2.2 (hv2 (-1)).2.2.1 (hv2 (-1)).2.2.2.1, ?_⟩
    rintro _ rfl
    exact ⟨rfl, by rw [burnsC, if_neg e]⟩
theorem l_copyTo {a b n n' : Nat} {g : PH} {rc rs n0 : Nat} {X : String → PH → Prop} (ka : hK g a = (100, n)) (kb : hK g b = (100, n')) (hn : n ≤ n') (hs : n' < 100000) (hab : a ≠ b) : ∀ (m i : Nat), i + m = n → Gm l x mX8_copyTo 0 2 [(0, .ref a), (1, .ref b), (2, .int (nI i))] [] (rw1 g a (cpy i (fun j => hI g b j) (fun j => hI g a j))) rc rs n0 (fun v h' => v = none ∧ h' = rw1 g a (cpy n (fun j => hI g b j) (fun j => hI g a j))) X := by
  have ea : (hK g a).1 = 100 := congrArg Prod.fst ka
  have ea2 : (hK g a).2 = n := congrArg Prod.snd ka
  have eb : (hK g b).1 = 100 := congrArg Prod.fst kb
  have eb2 : (hK g b).2 = n' := congrArg Prod.snd kb
  intro m
  induction m with
  | zero =>
    intro i hi
    obtain rfl : i = n := by omega
    refine vX8_copyTo_2 ⟨ea, fun _ => ⟨rfl, rfl⟩, fun e => absurd ?_ e⟩
    show nI (hK g a).2 ≤ nI i
    rw [ea2]
    exact nI_le (Nat.le_refl _) (by omega)
  | succ m ih =>
    intro i hi
    refine vX8_copyTo_2 ⟨ea, fun e => absurd e ?_, fun _ => ⟨eb, ?_, ?_, ?_⟩⟩
    · show ¬ nI (hK g a).2 ≤ nI i
      rw [ea2]
      exact nI_ge (by omega) (by omega)
    · show vp_in _ (hK g b).2
      rw [eb2]
      exact vp_in_nI (by omega) (by omega)
    · show vp_in _ (hK g a).2
      rw [ea2]
      exact vp_in_nI (by omega) (by omega)
    · have h1 := ih (i + 1) (by omega)
      rw [← nI_1] at h1
      rw [nI_clamp (by omega), sI_rws, hI_rw, if_neg (Ne.symm hab)]
      have e : up (cpy i (fun j => hI g b j) (fun j => hI g a j)) i (hI g b i) = cpy (i + 1) (fun j => hI g b j) (fun j => hI g a j) := by
        funext j
        simp only [up, cpy]
        by_cases h1 : j = i
        · rw [if_pos h1, if_pos (by omega), h1]
        · rw [if_neg h1]
          by_cases h2 : j < i
          · rw [if_pos h2, if_pos (by omega)]
          · rw [if_neg h2, if_neg (by omega)]
      rw [e]
      exact h1
theorem c_copyTo {a b n n' : Nat} {g : PH} (ka : hK g a = (100, n)) (kb : hK g b = (100, n')) (hn : n ≤ n') (hs : n' < 100000) (hab : a ≠ b) : CV l x mX8_copyTo 0 0 0 [.ref a, .ref b] g (fun h' => h' = rw1 g a (cpy n (fun j => hI g b j) (fun j => hI g a j))) := by
  refine Cm.of (by decide) (Nat.le_of_ble_eq_true rfl) (vX8_copyTo_0 ?_)
  have h1 := l_copyTo (l := l) (x := x) (rc := 0) (rs := 0) (n0 := hN g) (X := fun _ _ => False) ka kb hn hs hab n 0 (by omega)
  rw [show cpy 0 (fun j => hI g b j) (fun j => hI g a j) = (fun j => hI g a j) from funext fun j => if_neg (by omega), rw_self] at h1
  exact h1
end Ref9
