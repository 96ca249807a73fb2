/-! THE REFERENCE: calls, riders overtaken; double sums -/
def sm (g : Nat → Nat) : Nat → Nat
  | 0 => 0
  | n + 1 => sm g n + g n
theorem sm_cong {g k : Nat → Nat} : ∀ n, (∀ i, i < n → g i = k i) → sm g n = sm k n
  | 0, _ => rfl
  | n + 1, h => by rw [sm, sm, sm_cong n (fun i hi => h i (by omega)), h n (by omega)]
theorem sm_add (g k : Nat → Nat) : ∀ n, sm (fun i => g i + k i) n = sm g n + sm k n
  | 0 => rfl
  | n + 1 => by rw [sm, sm, sm, sm_add g k n]; omega
theorem sm_0 : ∀ n, sm (fun _ => 0) n = 0
  | 0 => rfl
  | n + 1 => by rw [sm, sm_0 n]
theorem sm_pairs (N : Nat → Nat → Nat) (hd : ∀ a, N a a = 0) : ∀ n, sm (fun a => sm (fun b => if a < b then N a b + N b a else 0) n) n = sm (fun a => sm (fun b => N a b) n) n
  | 0 => rfl
  | n + 1 => by
    have ih := sm_pairs N hd n
    have e1 : sm (fun a => sm (fun b => N a b) (n + 1)) (n + 1) = sm (fun a => sm (fun b => N a b) n) n + sm (fun a => N a n) n + sm (fun b => N n b) n := by
      show sm (fun a => sm (fun b => N a b) n + N a n) n + (sm (fun b => N n b) n + N n n) = _
      rw [sm_add, hd, Nat.add_zero]
    have e2 : sm (fun a => sm (fun b => if a < b then N a b + N b a else 0) (n + 1)) (n + 1) = sm (fun a => sm (fun b => if a < b then N a b + N b a else 0) n) n + sm (fun a => N a n) n + sm (fun b => N n b) n := by
      show sm (fun a => sm (fun b => if a < b then N a b + N b a else 0) n + (if a < n then N a n + N n a else 0)) n + (sm (fun b => if n < b then N n b + N b n else 0) n + (if n < n then N n n + N n n else 0)) = _
      rw [sm_add, if_neg (Nat.lt_irrefl n), sm_cong (g := fun b => if n < b then N n b + N b n else 0) (k := fun _ => 0) n (fun i hi => if_neg (by omega)), sm_0, sm_cong (g := fun a => if a < n then N a n + N n a else 0) (k := fun a => N a n + N n a) n (fun i hi => if_pos hi), sm_add]
      show _ = _ + _ + sm (N n) n
      omega
    rw [e1, e2, ih]
theorem sm_le {g : Nat → Nat} {B : Nat} (h : ∀ i, g i ≤ B) : ∀ n, sm g n ≤ n * B
  | 0 => Nat.zero_le _
  | n + 1 => by
    have := sm_le h n
    have := h n
    rw [sm, Nat.add_mul]
    omega
/-- b is ahead of a though it came behind it -/
def ovP (f : Nat → Int32) (a b : Nat) : Prop := f (48 + 9 * a + 2) = f (48 + 9 * b + 2) ∧ f (48 + 9 * a) = f (48 + 9 * b) ∧ (f (48 + 9 * a + 3) ≤ f (48 + 9 * a + 2) ↔ f (48 + 9 * b + 3) ≤ f (48 + 9 * b + 2)) ∧ (f (48 + 9 * a + 1) < f (48 + 9 * b + 1) ∨ f (48 + 9 * a + 1) = f (48 + 9 * b + 1) ∧ a < b) ∧ ¬ f (48 + 9 * b + 8) = -1 ∧ ¬ f (48 + 9 * a + 8) ≤ f (48 + 9 * b + 8)
noncomputable def ovN (f : Nat → Int32) (a b : Nat) : Nat := @ite _ (ovP f a b) (Classical.propDecidable _) 1 0
theorem ovN_1 {f : Nat → Int32} {a b : Nat} (h : ovP f a b) : ovN f a b = 1 := if_pos h
theorem ovN_0 {f : Nat → Int32} {a b : Nat} (h : ¬ ovP f a b) : ovN f a b = 0 := if_neg h
theorem ovN_le (f : Nat → Int32) (a b : Nat) : ovN f a b ≤ 1 := by
  by_cases h : ovP f a b
  · rw [ovN_1 h]; exact Nat.le_refl _
  · rw [ovN_0 h]; exact Nat.zero_le _
theorem ovN_self (f : Nat → Int32) (a : Nat) : ovN f a a = 0 := ovN_0 fun h => by
  rcases h.2.2.2.1 with z | z
  · exact absurd z (by rw [Int32.lt_iff_toInt_lt]; omega)
  · exact absurd z.2 (Nat.lt_irrefl a)
noncomputable def ovS (f : Nat → Int32) (nr : Nat) : Nat := sm (fun a => sm (fun b => ovN f a b) nr) nr
/-- calls at the first i places -/
def clN (f : Nat → Int32) (nr i : Nat) : Nat := fb_ct (fun k => decide (¬ icA f (nI (k / 4)) (if k % 4 < 2 then 1 else -1) (nI (1 + k % 2)) nr = 0)) i
section Ovt
variable {l : Launch} {x : CX} {mo nc nf nr m : Nat} {h : PH} {f t ct : Nat → Int32}
theorem c_isOvertaken {a b : Nat} (w : MW mo h) (ha : a < 24) (hb : b < 24) : CI l x mX8_isOvertaken 1 0 0 [.ref mo, .int (nI a), .int (nI b)] (NW mo h f) (fun v h' => v = nI (ovN f a b) ∧ h' = NW mo h f) := by
  have l78 : ∀ s0 : Int32, (s0 = 0 → ¬ ovP f a b) → (¬ s0 = 0 → f (48 + 9 * a + 2) = f (48 + 9 * b + 2) ∧ f (48 + 9 * a) = f (48 + 9 * b) ∧ (f (48 + 9 * a + 3) ≤ f (48 + 9 * a + 2) ↔ f (48 + 9 * b + 3) ≤ f (48 + 9 * b + 2))) → Gm l x mX8_isOvertaken 1 78 [(0, .ref mo), (1, .int (nI a)), (2, .int (nI b))] [.int s0] (NW mo h f) 0 0 (hN (NW mo h f)) (fun v h' => ∃ r, v = some (.int r) ∧ r = nI (ovN f a b) ∧ h' = NW mo h f) (fun _ _ => False) := by
    intro s0 hs0 hs1
    have no : ¬ ovP f a b → ((0 : Int32) = 0 ∨ (0 : Int32) = 1) ∧ ∃ r, some (Value.int 0) = some (.int r) ∧ r = nI (ovN f a b) ∧ NW mo h f = NW mo h f := fun z => ⟨Or.inl rfl, _, rfl, by rw [ovN_0 z]; rfl, rfl⟩
    have fin : (f (48 + 9 * a + 1) < f (48 + 9 * b + 1) ∨ f (48 + 9 * a + 1) = f (48 + 9 * b + 1) ∧ a < b) → ¬ s0 = 0 → (hK (NW mo h f) mo).1 = 8 ∧ ∃ q14 : Int32 → PH → Prop, CI l x mX8_of 0 0 0 [.ref mo, .int (nI b), .int 8] (NW mo h f) q14 ∧ ∀ (r18 : Int32) (h17 : PH), q14 r18 h17 → ((r18 = (-1) → ((0 : Int32) = 0 ∨ (0 : Int32) = 1) ∧ ∃ r, some (Value.int 0) = some (.int r) ∧ r = nI (ovN f a b) ∧ h17 = NW mo h f) ∧ (¬ r18 = (-1) → ((hK h17 mo).1 = 8) ∧ ∃ (q20 : Int32 → PH → Prop), CI l x mX8_of 0 0 0 [.ref mo, .int (nI a), .int 8] h17 q20 ∧ ∀ (r24 : Int32) (h23 : PH), q20 r24 h23 → ((hK h23 mo).1 = 8) ∧ ∃ (q25 : Int32 → PH → Prop), CI l x mX8_of 0 0 0 [.ref mo, .int (nI b), .int 8] h23 q25 ∧ ∀ (r29 : Int32) (h28 : PH), q25 r29 h28 → (((if r24 ≤ r29 then 0 else 1 : Int32) : Int32) = 0 ∨ ((if r24 ≤ r29 then 0 else 1 : Int32) : Int32) = 1) ∧ ∃ r, some (Value.int (if r24 ≤ r29 then 0 else 1 : Int32)) = some (.int r) ∧ r = nI (ovN f a b) ∧ h28 = NW mo h f)) := by
      intro ht hs
      refine ⟨w.1, _, c_of (k := 8) w hb (by decide), ?_⟩
      rintro _ _ ⟨rfl, rfl⟩
      refine ⟨fun e => no fun z => z.2.2.2.2.1 e, fun e => ⟨w.1, _, c_of (k := 8) w ha (by decide), ?_⟩⟩
      rintro _ _ ⟨rfl, rfl⟩
      refine ⟨w.1, _, c_of (k := 8) w hb (by decide), ?_⟩
      rintro _ _ ⟨rfl, rfl⟩
      by_cases e2 : f (48 + 9 * a + 8) ≤ f (48 + 9 * b + 8)
      · rw [if_pos e2]
        exact no fun z => z.2.2.2.2.2 e2
      · rw [if_neg e2]
        obtain ⟨z1, z2, z3⟩ := hs1 hs
        exact ⟨Or.inr rfl, _, rfl, by rw [ovN_1 ⟨z1, z2, z3, ht, e, e2⟩]; rfl, rfl⟩
    refine vX8_isOvertaken_78 ⟨w.1, _, c_of (k := 1) w ha (by decide), ?_⟩
    rintro _ _ ⟨rfl, rfl⟩
    refine ⟨w.1, _, c_of (k := 1) w hb (by decide), ?_⟩
    rintro _ _ ⟨rfl, rfl⟩
    refine ⟨fun e => ⟨fun e2 => no (hs0 e2), fun e2 => fin (Or.inl e) e2⟩, fun e => ⟨w.1, _, c_of (k := 1) w ha (by decide), ?_⟩⟩
    rintro _ _ ⟨rfl, rfl⟩
    refine ⟨w.1, _, c_of (k := 1) w hb (by decide), ?_⟩
    rintro _ _ ⟨rfl, rfl⟩
    intro y hy
    refine ⟨fun e2 => no (hs0 e2), fun e2 => ⟨fun e3 => no fun z => ?_, fun e3 => fin (Or.inr ?_) e2⟩⟩
    · rcases z.2.2.2.1 with z9 | ⟨z8, z9⟩
      · exact e z9
      · rw [hy, if_pos z8, if_neg (nI_ge z9 (by omega))] at e3
        exact absurd e3 (by decide)
    · by_cases z8 : f (48 + 9 * a + 1) = f (48 + 9 * b + 1)
      · refine ⟨z8, Nat.lt_of_not_le fun z9 => ?_⟩
        rw [hy, if_pos z8, if_pos (nI_le z9 (by omega))] at e3
        exact e3 rfl
      · rw [hy, if_neg z8] at e3
        exact absurd rfl e3
  refine Cm.of (by decide) (Nat.le_of_ble_eq_true rfl) (vX8_isOvertaken_0 ⟨w.1, _, c_of (k := 2) w ha (by decide), ?_⟩)
  rintro _ _ ⟨rfl, rfl⟩
  refine ⟨w.1, _, c_of (k := 2) w hb (by decide), ?_⟩
  rintro _ _ ⟨rfl, rfl⟩
  refine ⟨fun e => l78 0 (fun _ z => e z.1) (fun z => absurd rfl z), fun e => ⟨w.1, _, c_of (k := 0) w ha (by decide), ?_⟩⟩
  rintro _ _ ⟨rfl, rfl⟩
  refine ⟨w.1, _, c_of (k := 0) w hb (by decide), ?_⟩
  rintro _ _ ⟨rfl, rfl⟩
  refine ⟨fun e2 => l78 0 (fun _ z => e2 z.2.1) (fun z => absurd rfl z), fun e2 => ⟨w.1, _, c_of (k := 3) w ha (by decide), ?_⟩⟩
  rintro _ _ ⟨rfl, rfl⟩
  refine ⟨w.1, _, c_of (k := 2) w ha (by decide), ?_⟩
  rintro _ _ ⟨rfl, rfl⟩
  refine ⟨w.1, _, c_of (k := 3) w hb (by decide), ?_⟩
  rintro _ _ ⟨rfl, rfl⟩
  refine ⟨w.1, _, c_of (k := 2) w hb (by decide), ?_⟩
  rintro _ _ ⟨rfl, rfl⟩
  have key : ((if f (48 + 9 * a + 3) ≤ f (48 + 9 * a + 2) then 0 else 1 : Int32) = (if f (48 + 9 * b + 3) ≤ f (48 + 9 * b + 2) then 0 else 1 : Int32)) ↔ (f (48 + 9 * a + 3) ≤ f (48 + 9 * a + 2) ↔ f (48 + 9 * b + 3) ≤ f (48 + 9 * b + 2)) := by
    by_cases z1 : f (48 + 9 * a + 3) ≤ f (48 + 9 * a + 2) <;> by_cases z2 : f (48 + 9 * b + 3) ≤ f (48 + 9 * b + 2) <;> simp [z1, z2]
  exact ⟨fun e3 => l78 0 (fun _ z => e3 (key.mpr z.2.2.1)) (fun z => absurd rfl z), fun e3 => l78 1 (fun z => absurd z (by decide)) (fun _ => ⟨e, e2, key.mp e3⟩)⟩
theorem c_overtaken (w : MW mo h) (h6 : f 6 = nI nr) (h24 : nr ≤ 24) : CI l x mX8_overtaken 2 0 0 [.ref mo] (NW mo h f) (fun v h' => v = nI (ovS f nr) ∧ h' = NW mo h f) := by
  have w2 := w.row 2 2 312 (by decide)
  have i6 : vp_in 6 (hK h (mo + 2)).2 := by rw [w2.2.2]; exact vp_in_nI (n := 6) (by decide) (by decide)
  have loop : ∀ (j a : Nat), a + j = nr → Gm l x mX8_overtaken 2 4 [(0, .ref mo), (1, .int (nI (sm (fun a => sm (fun b => ovN f a b) nr) a))), (2, .int (nI a))] [] (NW mo h f) 0 0 (hN (NW mo h f)) (fun w h' => ∃ r, w = some (.int r) ∧ r = nI (ovS f nr) ∧ h' = NW mo h f) (fun _ _ => False) := by
    intro j
    induction j with
    | zero =>
      intro a hj
      obtain rfl : a = nr := by omega
      refine vX8_overtaken_4 ⟨w.1, mo + 2, w2.1, w2.2.1, i6, fun _ => ⟨_, rfl, rfl, rfl⟩, fun e => absurd ?_ e⟩
      rw [now6 h6]
      exact nI_le (Nat.le_refl _) (by omega)
    | succ j ih =>
      intro a hj
      refine vX8_overtaken_4 ⟨w.1, mo + 2, w2.1, w2.2.1, i6, fun e => absurd e ?_, fun _ => ?_⟩
      · rw [now6 h6]
        exact nI_ge (by omega) (by omega)
      have inner : ∀ (i b : Nat), b + i = nr → Gm l x mX8_overtaken 2 17 [(0, .ref mo), (1, .int (nI (sm (fun a => sm (fun b => ovN f a b) nr) a + sm (fun b => ovN f a b) b))), (2, .int (nI a)), (3, .int (nI b))] [] (NW mo h f) 0 0 (hN (NW mo h f)) (fun w h' => ∃ r, w = some (.int r) ∧ r = nI (ovS f nr) ∧ h' = NW mo h f) (fun _ _ => False) := by
        intro i
        induction i with
        | zero =>
          intro b hb
          obtain rfl : b = nr := by omega
          refine vX8_overtaken_17 ⟨w.1, mo + 2, w2.1, w2.2.1, i6, fun _ => ?_, fun e => absurd ?_ e⟩
          · rw [nI_1]
            exact ih (a + 1) (by omega)
          · rw [now6 h6]
            exact nI_le (Nat.le_refl _) (by omega)
        | succ i ih2 =>
          intro b hb
          have h1 := ih2 (b + 1) (by omega)
          rw [sm, ← Nat.add_assoc, ← nI_add, ← nI_1] at h1
          refine vX8_overtaken_17 ⟨w.1, mo + 2, w2.1, w2.2.1, i6, fun e => absurd e ?_, fun _ => ⟨fun e => ?_, fun e => ⟨_, c_isOvertaken w (by omega) (by omega), ?_⟩⟩⟩
          · rw [now6 h6]
            exact nI_ge (by omega) (by omega)
          · obtain rfl : a = b := (nI_eq (by omega) (by omega)).mp e
            rw [ovN_self] at h1
            exact h1
          · rintro _ _ ⟨rfl, rfl⟩
            have e9 : (if nI (ovN f a b) = 0 then 0 else 1 : Int32) = nI (ovN f a b) := by
              by_cases z : ovP f a b
              · rw [ovN_1 z]; rfl
              · rw [ovN_0 z]; rfl
            rw [e9]
            exact h1
      exact inner nr 0 (by omega)
  exact Cm.of (by decide) (Nat.le_of_ble_eq_true rfl) (vX8_overtaken_0 (loop nr 0 (by omega)))
theorem k4w : ∀ k, k < 4 → (if 2 ≤ nI k then (-1) else 1 : Int32) = (if k < 2 then 1 else -1) := by decide +kernel
theorem k4s : ∀ k, k < 4 → (1 : Int32) + (nI k - nI k / 2 * 2) = nI (1 + k % 2) := by decide +kernel
theorem c_calls (w : RW mo t ct h) (hT : TK t nc nf) (hf : nf ≤ 12) (h6 : f 6 = nI nr) (h24 : nr ≤ 24) : CI l x mX8_calls 3 0 0 [.ref mo] (NW mo h f) (fun v h' => v = nI (clN f nr (4 * nf)) ∧ h' = NW mo h f) := by
  have w4 := w.1.row 4 4 7 (by decide)
  have i0 : vp_in 0 (hK h (mo + 4)).2 := by rw [w4.2.2]; exact vp_in_nI (n := 0) (by decide) (by decide)
  have e0 : hI (NW mo h f) (mo + 4) (Int32.toNatClampNeg 0) = nI nf := (toldI 0).trans ((w.2.1 0).trans hT.1.1)
  have loop : ∀ (j k : Nat), k + j = nf → Gm l x mX8_calls 3 4 [(0, .ref mo), (1, .int (nI (clN f nr (4 * k)))), (2, .int (nI k))] [] (NW mo h f) 0 0 (hN (NW mo h f)) (fun w h' => ∃ r, w = some (.int r) ∧ r = nI (clN f nr (4 * nf)) ∧ h' = NW mo h f) (fun _ _ => False) := by
    intro j
    induction j with
    | zero =>
      intro k hj
      obtain rfl : k = nf := by omega
      refine vX8_calls_4 ⟨w.1.1, mo + 4, w4.1, w4.2.1, i0, fun _ => ⟨_, rfl, rfl, rfl⟩, fun e => absurd ?_ e⟩
      rw [e0]
      exact nI_le (Nat.le_refl _) (by omega)
    | succ j ih =>
      intro k hj
      refine vX8_calls_4 ⟨w.1.1, mo + 4, w4.1, w4.2.1, i0, fun e => absurd e ?_, fun _ => ?_⟩
      · rw [e0]
        exact nI_ge (by omega) (by omega)
      have inner : ∀ (i b : Nat), b + i = 4 → Gm l x mX8_calls 3 16 [(0, .ref mo), (1, .int (nI (clN f nr (4 * k + b)))), (2, .int (nI k)), (3, .int (nI b))] [] (NW mo h f) 0 0 (hN (NW mo h f)) (fun w h' => ∃ r, w = some (.int r) ∧ r = nI (clN f nr (4 * nf)) ∧ h' = NW mo h f) (fun _ _ => False) := by
        intro i
        induction i with
        | zero =>
          intro b hb
          obtain rfl : b = 4 := by omega
          refine vX8_calls_16 ⟨fun _ => ?_, fun e => absurd (by decide) e⟩
          rw [nI_1]
          exact ih (k + 1) (by omega)
        | succ i ih2 =>
          intro b hb
          refine vX8_calls_16 ⟨fun e => absurd e (nI_ge (b := 4) (by omega) (by decide)), fun _ => ⟨w.1.1, ?_⟩⟩
          rw [k4w b (by omega), k4s b (by omega)]
          refine ⟨_, c_isCall w.1 h6 h24, ?_⟩
          rintro _ _ ⟨rfl, rfl⟩
          have h1 := ih2 (b + 1) (by omega)
          have ec : clN f nr (4 * k + (b + 1)) = clN f nr (4 * k + b) + (if icA f (nI k) (if b < 2 then 1 else -1) (nI (1 + b % 2)) nr = 0 then 0 else 1) := by
            unfold clN
            rw [show 4 * k + (b + 1) = 4 * k + b + 1 by omega, fb_ct_succ]
            rw [show (4 * k + b) / 4 = k by omega, show (4 * k + b) % 4 = b by omega, show (4 * k + b) % 2 = b % 2 by omega]
            by_cases z : icA f (nI k) (if b < 2 then 1 else -1) (nI (1 + b % 2)) nr = 0
            · simp [z]
            · simp [z]
          rw [ec, ← nI_add, ← nI_1] at h1
          have e9 : nI (if icA f (nI k) (if b < 2 then 1 else -1) (nI (1 + b % 2)) nr = 0 then 0 else 1) = (if icA f (nI k) (if b < 2 then 1 else -1) (nI (1 + b % 2)) nr = 0 then 0 else 1 : Int32) := by
            by_cases z : icA f (nI k) (if b < 2 then 1 else -1) (nI (1 + b % 2)) nr = 0
            · rw [if_pos z, if_pos z]; rfl
            · rw [if_neg z, if_neg z]; rfl
          rw [e9] at h1
          exact h1
      exact inner 4 0 rfl
  exact Cm.of (by decide) (Nat.le_of_ble_eq_true rfl) (vX8_calls_0 (loop nf 0 (by omega)))
end Ovt
