/-! THE CLASS: a car turns, takes in -/
section CarIn
variable {l : Launch} {x : CX} {h : PH} {a o c nc nf nr m : Nat} {f g t ct : Nat → Int32}
def clD (g : Nat → Int32) (c fl : Nat) : Int32 := if hasC g c fl 1 = 0 then (if hasC g c fl (-1) = 0 then 0 else -1) else 1
def clV (g : Nat → Int32) (nr nf c fl : Nat) : Int32 := if isStopC g nr nf c (g (16 + 8 * c + 1)) = 0 then (if g (16 + 8 * c + 1) = 0 then clD g c fl else if hasC g c fl (g (16 + 8 * c + 1)) = 0 then clD g c fl else g (16 + 8 * c + 1)) else g (16 + 8 * c + 1)
theorem k_calledWay (C : CB h a ct g c) (I : Inv ct nc nf nr m g) (hc : c < nc) : CI l x mX2_calledWay 0 0 0 [.ref a, .int (isStopC g nr nf c (g (16 + 8 * c + 1)))] h (fun v h' => v = clV g nr nf c (flo g c) ∧ h' = h) := by
  refine Cm.of (by decide) (Nat.le_of_ble_eq_true rfl) (vX2_calledWay_0 ⟨C.ck, fun y3 h3 y6 h6 => ?_⟩)
  rw [b01 has_01 (C.here3 I hc)] at h3
  rw [b01 has_01 (C.here12 I hc)] at h6
  subst h3
  subst h6
  have eD : (if hasC g c (flo g c) 1 = 0 then (if hasC g c (flo g c) (-1) = 0 then 0 else (-1) : Int32) else 1 : Int32) = clD g c (flo g c) := rfl
  rw [C.wy, eD]
  unfold clV
  refine ⟨fun e => ⟨_, rfl, (if_neg e).symm, rfl⟩, fun e => ?_⟩
  rcases (I.cars c hc).wy with w | w | w
  · rw [w, if_pos (by rw [isStop_0]), if_pos rfl]
    exact ⟨fun _ => ⟨fun _ => ⟨_, rfl, rfl, rfl⟩, fun q => absurd (by decide) q⟩, fun q => absurd (by decide) q⟩
  · rw [w] at e ⊢
    rw [if_pos e, if_neg (by decide)]
    refine ⟨fun q => absurd q (by decide), fun _ => ⟨fun q => ⟨_, rfl, (if_neg q).symm, rfl⟩, fun q => ⟨fun _ => ⟨_, rfl, (if_pos q).symm, rfl⟩, fun z => absurd (by decide) z⟩⟩⟩
  · rw [w] at e ⊢
    rw [if_pos e, if_neg (by decide)]
    exact ⟨fun _ => ⟨fun q => absurd q (by decide), fun _ => ⟨fun q => ⟨_, rfl, (if_pos q).symm, rfl⟩, fun q => ⟨_, rfl, (if_neg q).symm, rfl⟩⟩⟩, fun q => absurd (by decide) q⟩
theorem k_onward (C : CB h a ct g c) (I : Inv ct nc nf nr m g) (hc : c < nc) : CI l x mX2_onward 0 0 0 [.ref a, .int (isStopC g nr nf c 1), .int (isStopC g nr nf c (-1))] h (fun v h' => v = goW g nr nf c ∧ h' = h) := by
  refine Cm.of (by decide) (Nat.le_of_ble_eq_true rfl) (vX2_onward_0 ⟨C.ck, ?_⟩)
  rw [C.wy]
  unfold goW turnedC
  rcases (I.cars c hc).wy with w | w | w
  · rw [w, if_pos rfl, if_pos rfl]
    exact ⟨fun _ => ⟨_, rfl, rfl, rfl⟩, fun q => absurd (by decide) q⟩
  · rw [w, if_neg (show ¬ (1 : Int32) = 0 by decide), if_neg (show ¬ (1 : Int32) = 0 by decide)]
    exact ⟨fun _ => ⟨_, rfl, rfl, rfl⟩, fun q => absurd (by decide) q⟩
  · rw [w, if_neg (show ¬ (-1 : Int32) = 0 by decide), if_neg (show ¬ (-1 : Int32) = 0 by decide), show (- -1 : Int32) = 1 from by decide]
    refine ⟨fun q => absurd q (by decide), fun _ => ⟨fun q => ⟨_, rfl, ?_, rfl⟩, fun q => ⟨_, rfl, (if_neg q).symm, rfl⟩⟩⟩
    rw [if_pos q, if_pos q]
theorem opW_eq (I : Inv ct nc nf nr m g) (hc : c < nc) {fl : Nat} : opW g nr nf c fl = if clV g nr nf c fl = 0 then goW g nr nf c else clV g nr nf c fl := by
  have hD : opWd g nr nf c fl (g (16 + 8 * c + 1)) = if clD g c fl = 0 then turnedC g nr nf c (g (16 + 8 * c + 1)) else clD g c fl := by
    unfold opWd clD
    by_cases e1 : hasC g c fl 1 = 0
    · rw [if_pos e1, if_pos e1]
      by_cases e2 : hasC g c fl (-1) = 0
      · rw [if_pos e2, if_pos e2, if_pos rfl]
      · rw [if_neg e2, if_neg e2, if_neg (by decide)]
    · rw [if_neg e1, if_neg e1, if_neg (by decide)]
  unfold opW clV goW
  by_cases w0 : g (16 + 8 * c + 1) = 0
  · have s0 : isStopC g nr nf c (g (16 + 8 * c + 1)) = 0 := by rw [w0, isStop_0]
    rw [if_pos w0, hD, if_pos s0, if_pos w0, if_pos w0]
  · rw [if_neg w0, if_neg w0, if_neg w0]
    by_cases a0 : isStopC g nr nf c (g (16 + 8 * c + 1)) = 0
    · rw [if_pos a0, if_pos a0, if_pos a0]
      by_cases h0 : hasC g c fl (g (16 + 8 * c + 1)) = 0
      · rw [if_pos h0, if_pos h0, hD]
      · rw [if_neg h0, if_neg h0, if_neg w0]
    · rw [if_neg a0, if_neg a0, if_neg w0]
theorem DR.on {L J : Int32} {r : Nat} (D : DR f g c nr L J) (hc : c < 4) (hr : r < nr) (h4 : nr ≤ 24) (hw : g (48 + 9 * r + 4) = 1) : DR f (if onT g c r (48 + 9 * r + 8) = -1 then up (onT g c r) (48 + 9 * r + 8) (onT g c r 0) else onT g c r) c nr L (J ||| (1 <<< (nI r &&& 31))) := by
  have h9 := D.rr r hr 4 (by omega)
  have hL : bt L r = false := by
    cases e : bt L r with
    | false => rfl
    | true =>
      rw [hw, e] at h9
      exact absurd h9 (by unfold rd; simp)
  have hJ : bt J r = false := by
    cases e : bt J r with
    | false => rfl
    | true =>
      rw [hw, e, hL] at h9
      exact absurd h9 (by unfold rd; simp)
  have hf : f (48 + 9 * r + 4) = 1 := by
    rw [hw, hJ, hL] at h9
    unfold rd at h9
    simpa using h9.symm
  have h0 : onT g c r 0 = f 0 := by
    unfold onT
    rw [up_ne (by omega), up_ne (by omega), up_ne (by omega)]
    exact D.t0
  have h8 : onT g c r (48 + 9 * r + 8) = f (48 + 9 * r + 8) := by
    unfold onT
    rw [up_ne (by omega), up_ne (by omega), up_ne (by omega), D.rr r hr 8 (by omega), hJ]
    unfold rd
    simp
  have key : ∀ r', r' < nr → ∀ k, k < 9 → onT g c r (48 + 9 * r' + k) = if r' = r ∧ k = 8 then f (48 + 9 * r + 8) else rd f c (bt L r') (if r' = r then true else bt J r') r' k := by
    intro r' hr' k hk
    by_cases e : r' = r
    · subst e
      rw [if_pos rfl]
      by_cases k8 : k = 8
      · subst k8
        rw [if_pos ⟨rfl, rfl⟩]; exact h8
      · rw [if_neg (fun q => k8 q.2)]
        unfold onT
        by_cases k5 : k = 5
        · subst k5
          rw [up_eq, hL]; unfold rd; simp
        · rw [up_ne (by omega)]
          by_cases k4 : k = 4
          · subst k4
            rw [up_eq, hL]; unfold rd; simp
          · rw [up_ne (by omega), up_ne (by omega), D.rr r' hr' k hk]
            unfold rd
            rw [if_neg k4, if_neg k5, if_neg k8, if_neg k4, if_neg k5, if_neg k8]
    · rw [if_neg (fun q => e q.1), if_neg e]
      unfold onT
      rw [up_ne (by omega), up_ne (by omega), up_ne (by omega)]
      exact D.rr r' hr' k hk
  have rdJ : rd f c (bt L r) true r 8 = if f (48 + 9 * r + 8) = -1 then f 0 else f (48 + 9 * r + 8) := by unfold rd; simp
  refine ⟨?_, fun r' hr' k hk => ?_, fun r' hr' hb => ?_, fun r' hr' hb => ?_⟩
  · split
    · rw [up_ne (by omega)]; exact h0
    · exact h0
  · rw [bt_set _ r (by omega) r' (by omega), h8, h0]
    have k9 := key r' hr' k hk
    by_cases e : r' = r ∧ k = 8
    · obtain ⟨rfl, rfl⟩ := e
      rw [if_pos rfl, rdJ]
      rw [if_pos ⟨rfl, rfl⟩] at k9
      by_cases e8 : f (48 + 9 * r' + 8) = -1
      · rw [if_pos e8, if_pos e8, up_eq]
      · rw [if_neg e8, if_neg e8, k9]
    · rw [if_neg e] at k9
      rw [← k9]
      split
      · rw [up_ne (by omega)]
      · rfl
  · rw [bt_set _ r (by omega) r' (by omega)] at hb
    by_cases e : r' = r
    · rw [e]; exact hf
    · rw [if_neg e] at hb
      exact D.jj r' hr' hb
  · rw [bt_set _ r (by omega) r' (by omega)]
    by_cases e : r' = r
    · rw [if_pos e]; exact Or.inl rfl
    · rw [if_neg e]
      exact D.ll r' hr' hb
theorem full_stay {y w : Int32} {r : Nat} (hF : ¬ fullC (opB ct g c y w r) c = 0) : ∀ k, opB ct g c y w (r + k) = opB ct g c y w r
  | 0 => rfl
  | k + 1 => by
    have ih := full_stay hF k
    show onR ct (opB ct g c y w (r + k)) c (r + k) y w = _
    rw [ih, onR, if_neg (fun q => hF q.1)]
/-- the calls that a car answers -/
def ansL (w : Int32) : Int64 := if w ≤ 0 then (if 0 ≤ w then 0 else 12 : Int64) else 3
theorem opX_call {fl i : Nat} {w : Int32} (I : Inv ct nc nf nr m g) (hc : c < nc) (hfl : fl < 12) (hi : i < 48) : opX ct g c fl w (264 + i) = nI c + 1 ↔ g (264 + i) = nI c + 1 ∧ ¬ (¬ w = 0 ∧ (264 + i = kix fl w 1 ∨ 264 + i = kix fl w 2)) := by
  have hC := I.hc
  have hn : ¬ (0 : Int32) = nI c + 1 := fun q => by
    rw [nI_1] at q
    exact absurd ((nI_eq (a := 0) (b := c + 1) (by omega) (by omega)).mp q) (by omega)
  have tk : ∀ s, 1 ≤ s → s ≤ 2 → 264 + i = kix fl w s → g (264 + i) = nI c + 1 → ¬ takesC ct c (nI s) = 0 := by
    intro s h1 h2 h3 h4
    obtain ⟨v, z1, z2, z3⟩ := I.call i hi
    have hs : i % 2 + 1 = s := by
      unfold kix at h3
      split at h3 <;> omega
    rw [h4, nI_1, nI_eq (by omega) (by omega)] at z1
    have := (z3 (by omega)).2
    rw [hs, ← z1] at this
    exact this
  have cl : ∀ (u : Nat → Int32) (s : Nat), clr ct u c fl w s (264 + i) = if 264 + i = kix fl w s ∧ ¬ takesC ct c (nI s) = 0 then 0 else u (264 + i) := by
    intro u s
    unfold clr
    by_cases e : takesC ct c (nI s) = 0
    · rw [if_pos e, if_neg (fun q => q.2 e)]
    · rw [if_neg e, up]
      by_cases e2 : 264 + i = kix fl w s
      · rw [if_pos e2, if_pos ⟨e2, e⟩]
      · rw [if_neg e2, if_neg (fun q => e2 q.1)]
  unfold opX
  by_cases w0 : w = 0
  · rw [if_pos w0]
    exact ⟨fun q => ⟨q, fun z => z.1 w0⟩, fun q => q.1⟩
  · rw [if_neg w0, cl, cl]
    constructor
    · intro q
      split at q
      · exact absurd q hn
      · rename_i n2
        split at q
        · exact absurd q hn
        · rename_i n1
          refine ⟨q, fun z => ?_⟩
          rcases z.2 with e | e
          · exact n1 ⟨e, tk 1 (by omega) (by omega) e q⟩
          · exact n2 ⟨e, tk 2 (by omega) (by omega) e q⟩
    · rintro ⟨q, z⟩
      rw [if_neg (fun e => z ⟨w0, Or.inr e.1⟩), if_neg (fun e => z ⟨w0, Or.inl e.1⟩)]
      exact q
theorem ans_bit {fl i : Nat} {w : Int32} (hw : w = 0 ∨ w = 1 ∨ w = -1) (hfl : fl < 12) (hi : i < 64) : bL (lsh (ansL w) (nI (4 * fl))) i = decide (¬ w = 0 ∧ (264 + i = kix fl w 1 ∨ 264 + i = kix fl w 2)) := by
  rw [bL_shl _ (by omega) _ hi]
  rcases hw with rfl | rfl | rfl
  · rw [show ansL 0 = 0 from rfl, bL_0, Bool.and_false, decide_eq_false (fun q => q.1 rfl)]
  · rw [show ansL 1 = 3 from rfl, bL_c3 _ (by omega), ← Bool.decide_and, decide_eq_decide]
    unfold kix
    rw [if_neg (by decide)]
    constructor
    · intro q
      exact ⟨by decide, by omega⟩
    · rintro ⟨_, q⟩
      omega
  · rw [show ansL (-1) = 12 from rfl, bL_c12 _ (by omega), ← Bool.decide_and, decide_eq_decide]
    unfold kix
    rw [if_pos (by decide)]
    constructor
    · intro q
      exact ⟨by decide, by omega⟩
    · rintro ⟨_, q⟩
      omega
end CarIn
