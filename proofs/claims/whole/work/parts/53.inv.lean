/-! THE ROW'S INVARIANT, and that a car's step keeps it -/
def CarQ (nf : Nat) (fl wy dr ab inn wk hm ho : Int32) : Prop :=
  (∃ n, fl = nI n ∧ n < nf) ∧
  (wy = 0 ∨ wy = 1 ∨ wy = -1) ∧
  (∃ n, dr = nI n ∧ n ≤ 4) ∧
  (∃ n H, bc ab = nI n ∧ ho = nI H ∧ n ≤ H ∧ 1 ≤ H ∧ H ≤ 6) ∧
  (inn = 0 ∨ inn = 1) ∧
  (Wok wk.toUInt32) ∧
  (∃ n, hm = nI n ∧ n < nf)
theorem CarQ.fl {nf : Nat} {fl wy dr ab inn wk hm ho : Int32} (q : CarQ nf fl wy dr ab inn wk hm ho) : ∃ n, fl = nI n ∧ n < nf := q.1
theorem CarQ.wy {nf : Nat} {fl wy dr ab inn wk hm ho : Int32} (q : CarQ nf fl wy dr ab inn wk hm ho) : wy = 0 ∨ wy = 1 ∨ wy = -1 := q.2.1
theorem CarQ.dr {nf : Nat} {fl wy dr ab inn wk hm ho : Int32} (q : CarQ nf fl wy dr ab inn wk hm ho) : ∃ n, dr = nI n ∧ n ≤ 4 := q.2.2.1
theorem CarQ.ld {nf : Nat} {fl wy dr ab inn wk hm ho : Int32} (q : CarQ nf fl wy dr ab inn wk hm ho) : ∃ n H, bc ab = nI n ∧ ho = nI H ∧ n ≤ H ∧ 1 ≤ H ∧ H ≤ 6 := q.2.2.2.1
theorem CarQ.inn {nf : Nat} {fl wy dr ab inn wk hm ho : Int32} (q : CarQ nf fl wy dr ab inn wk hm ho) : inn = 0 ∨ inn = 1 := q.2.2.2.2.1
theorem CarQ.wk {nf : Nat} {fl wy dr ab inn wk hm ho : Int32} (q : CarQ nf fl wy dr ab inn wk hm ho) : Fok wk.toUInt32 := q.2.2.2.2.2.1.f
theorem CarQ.wo {nf : Nat} {fl wy dr ab inn wk hm ho : Int32} (q : CarQ nf fl wy dr ab inn wk hm ho) : Wok wk.toUInt32 := q.2.2.2.2.2.1
theorem CarQ.hm {nf : Nat} {fl wy dr ab inn wk hm ho : Int32} (q : CarQ nf fl wy dr ab inn wk hm ho) : ∃ n, hm = nI n ∧ n < nf := q.2.2.2.2.2.2
def CarI (nf : Nat) (f : Nat → Int32) (c : Nat) : Prop := CarQ nf (f (16 + 8 * c)) (f (16 + 8 * c + 1)) (f (16 + 8 * c + 2)) (f (16 + 8 * c + 3)) (f (16 + 8 * c + 4)) (f (16 + 8 * c + 5)) (f (16 + 8 * c + 6)) (f (16 + 8 * c + 7))
def RidQ (nf : Nat) (so fr to wh we : Int32) : Prop :=
  (so = 1 ∨ so = 2) ∧
  (∃ n, fr = nI n ∧ n < nf) ∧
  (∃ n, to = nI n ∧ n < nf) ∧
  (wh = 0 ∨ wh = 1 ∨ wh = 2 ∨ wh = 3) ∧
  (wh = 1 → ∃ n, we = nI n ∧ n < nf)
theorem RidQ.so {nf : Nat} {so fr to wh we : Int32} (q : RidQ nf so fr to wh we) : so = 1 ∨ so = 2 := q.1
theorem RidQ.fr {nf : Nat} {so fr to wh we : Int32} (q : RidQ nf so fr to wh we) : ∃ n, fr = nI n ∧ n < nf := q.2.1
theorem RidQ.to {nf : Nat} {so fr to wh we : Int32} (q : RidQ nf so fr to wh we) : ∃ n, to = nI n ∧ n < nf := q.2.2.1
theorem RidQ.wh {nf : Nat} {so fr to wh we : Int32} (q : RidQ nf so fr to wh we) : wh = 0 ∨ wh = 1 ∨ wh = 2 ∨ wh = 3 := q.2.2.2.1
theorem RidQ.we {nf : Nat} {so fr to wh we : Int32} (q : RidQ nf so fr to wh we) : wh = 1 → ∃ n, we = nI n ∧ n < nf := q.2.2.2.2
def RidI (nf : Nat) (f : Nat → Int32) (r : Nat) : Prop := RidQ nf (f (48 + 9 * r)) (f (48 + 9 * r + 2)) (f (48 + 9 * r + 3)) (f (48 + 9 * r + 4)) (f (48 + 9 * r + 5))
def CallI (ct : Nat → Int32) (nc nf : Nat) (f : Nat → Int32) (k : Nat) : Prop := ∃ v, f (264 + k) = nI v ∧ v ≤ nc ∧ (0 < v → k / 4 < nf ∧ ¬ takesC ct (v - 1) (nI (k % 2 + 1)) = 0)
def Inv (ct : Nat → Int32) (nc nf nr m : Nat) (f : Nat → Int32) : Prop :=
  (f 6 = nI nr) ∧
  (nr ≤ 24) ∧
  (2 ≤ nf) ∧
  (nf ≤ 12) ∧
  (nc ≤ 4) ∧
  (f 7 = nI m) ∧
  (m = fb_ct (fun r => decide (¬ f (48 + 9 * r + 4) = 0)) nr) ∧
  (∀ c, c < nc → CarI nf f c) ∧
  (∀ r, r < nr → RidI nf f r) ∧
  (∀ c, c < nc → ∀ r, r < 32 → bt (f (16 + 8 * c + 3)) r = true → r < nr ∧ f (48 + 9 * r + 4) = 2 ∧ f (48 + 9 * r + 5) = nI c) ∧
  (∀ r, r < nr → f (48 + 9 * r + 4) = 2 → ∃ c, c < nc ∧ f (48 + 9 * r + 5) = nI c ∧ bt (f (16 + 8 * c + 3)) r = true) ∧
  (∀ k, k < 48 → CallI ct nc nf f k)
theorem Inv.h6 {ct : Nat → Int32} {nc nf nr m : Nat} {f : Nat → Int32} (q : Inv ct nc nf nr m f) : f 6 = nI nr := q.1
theorem Inv.hr {ct : Nat → Int32} {nc nf nr m : Nat} {f : Nat → Int32} (q : Inv ct nc nf nr m f) : nr ≤ 24 := q.2.1
theorem Inv.hf {ct : Nat → Int32} {nc nf nr m : Nat} {f : Nat → Int32} (q : Inv ct nc nf nr m f) : 2 ≤ nf := q.2.2.1
theorem Inv.hF {ct : Nat → Int32} {nc nf nr m : Nat} {f : Nat → Int32} (q : Inv ct nc nf nr m f) : nf ≤ 12 := q.2.2.2.1
theorem Inv.hc {ct : Nat → Int32} {nc nf nr m : Nat} {f : Nat → Int32} (q : Inv ct nc nf nr m f) : nc ≤ 4 := q.2.2.2.2.1
theorem Inv.h7 {ct : Nat → Int32} {nc nf nr m : Nat} {f : Nat → Int32} (q : Inv ct nc nf nr m f) : f 7 = nI m := q.2.2.2.2.2.1
theorem Inv.hm {ct : Nat → Int32} {nc nf nr m : Nat} {f : Nat → Int32} (q : Inv ct nc nf nr m f) : m = fb_ct (fun r => decide (¬ f (48 + 9 * r + 4) = 0)) nr := q.2.2.2.2.2.2.1
theorem Inv.cars {ct : Nat → Int32} {nc nf nr m : Nat} {f : Nat → Int32} (q : Inv ct nc nf nr m f) : ∀ c, c < nc → CarI nf f c := q.2.2.2.2.2.2.2.1
theorem Inv.rids {ct : Nat → Int32} {nc nf nr m : Nat} {f : Nat → Int32} (q : Inv ct nc nf nr m f) : ∀ r, r < nr → RidI nf f r := q.2.2.2.2.2.2.2.2.1
theorem Inv.abo {ct : Nat → Int32} {nc nf nr m : Nat} {f : Nat → Int32} (q : Inv ct nc nf nr m f) : ∀ c, c < nc → ∀ r, r < 32 → bt (f (16 + 8 * c + 3)) r = true → r < nr ∧ f (48 + 9 * r + 4) = 2 ∧ f (48 + 9 * r + 5) = nI c := q.2.2.2.2.2.2.2.2.2.1
theorem Inv.rid {ct : Nat → Int32} {nc nf nr m : Nat} {f : Nat → Int32} (q : Inv ct nc nf nr m f) : ∀ r, r < nr → f (48 + 9 * r + 4) = 2 → ∃ c, c < nc ∧ f (48 + 9 * r + 5) = nI c ∧ bt (f (16 + 8 * c + 3)) r = true := q.2.2.2.2.2.2.2.2.2.2.1
theorem Inv.call {ct : Nat → Int32} {nc nf nr m : Nat} {f : Nat → Int32} (q : Inv ct nc nf nr m f) : ∀ k, k < 48 → CallI ct nc nf f k := q.2.2.2.2.2.2.2.2.2.2.2
/-- where a car stops -/
def stp (f : Nat → Int32) (nr nf c j : Nat) : Prop := (∃ r, r < nr ∧ bt (f (16 + 8 * c + 3)) r = true ∧ f (48 + 9 * r + 3) = nI j) ∨ (fullC f c = 0 ∧ j < nf ∧ ¬ (hasC f c j 1 = 0 ∧ hasC f c j (-1) = 0))
theorem stA_bt {f : Nat → Int32} {c j : Nat} (hj : j < 32) : ∀ i, i ≤ 32 → (∀ r, r < i → ∃ n, f (48 + 9 * r + 3) = nI n ∧ n < 12) → (bt (stA f c i) j = true ↔ ∃ r, r < i ∧ bt (f (16 + 8 * c + 3)) r = true ∧ f (48 + 9 * r + 3) = nI j)
  | 0, _, _ => by
    show bt 0 j = true ↔ _
    rw [b_0]
    exact ⟨fun q => by simp at q, fun ⟨r, q, _⟩ => absurd q (Nat.not_lt_zero r)⟩
  | i + 1, hi, ht => by
    have ih := stA_bt (f := f) (c := c) hj i (by omega) (fun r hr => ht r (by omega))
    obtain ⟨n, hn, hn2⟩ := ht i (by omega)
    unfold stA
    rw [abit_bt _ i (by omega)]
    cases hb : bt (f (16 + 8 * c + 3)) i with
    | false =>
      rw [if_neg (by decide), ih]
      constructor
      · rintro ⟨r, h1, h2⟩
        exact ⟨r, by omega, h2⟩
      · rintro ⟨r, h1, h2, h3⟩
        refine ⟨r, ?_, h2, h3⟩
        rcases Nat.lt_or_ge r i with q | q
        · exact q
        · obtain rfl : r = i := by omega
          rw [hb] at h2
          cases h2
    | true =>
      rw [if_pos (by decide), hn, bt_set _ n (by omega) j hj]
      by_cases e : j = n
      · subst e
        rw [if_pos rfl]
        exact ⟨fun _ => ⟨i, by omega, hb, hn⟩, fun _ => rfl⟩
      · rw [if_neg e, ih]
        constructor
        · rintro ⟨r, h1, h2⟩
          exact ⟨r, by omega, h2⟩
        · rintro ⟨r, h1, h2, h3⟩
          refine ⟨r, ?_, h2, h3⟩
          rcases Nat.lt_or_ge r i with q | q
          · exact q
          · obtain rfl : r = i := by omega
            rw [hn] at h3
            exact absurd ((nI_eq (by omega) (by omega)).mp h3).symm e
theorem stB_bt {f : Nat → Int32} {c j : Nat} {s : Int32} (hj : j < 32) : ∀ k, k ≤ 32 → (bt (stB f c s k) j = true ↔ bt s j = true ∨ (j < k ∧ ¬ (hasC f c j 1 = 0 ∧ hasC f c j (-1) = 0)))
  | 0, _ => ⟨Or.inl, fun q => q.elim id (fun ⟨h, _⟩ => absurd h (Nat.not_lt_zero j))⟩
  | k + 1, hk => by
    have ih := stB_bt (f := f) (c := c) (s := s) hj k (by omega)
    have key : ∀ (b : Bool), (b = true ↔ ¬ (hasC f c k 1 = 0 ∧ hasC f c k (-1) = 0)) → ((if j = k ∧ b = true then true else bt (stB f c s k) j) = true ↔ bt s j = true ∨ (j < k + 1 ∧ ¬ (hasC f c j 1 = 0 ∧ hasC f c j (-1) = 0))) := by
      intro b hb
      by_cases e : j = k ∧ b = true
      · rw [if_pos e]
        refine ⟨fun _ => Or.inr ⟨by omega, ?_⟩, fun _ => rfl⟩
        rw [e.1]
        exact hb.mp e.2
      · rw [if_neg e, ih]
        constructor
        · rintro (q | ⟨q, q2⟩)
          · exact Or.inl q
          · exact Or.inr ⟨by omega, q2⟩
        · rintro (q | ⟨q, q2⟩)
          · exact Or.inl q
          · refine Or.inr ⟨?_, q2⟩
            rcases Nat.lt_or_ge j k with z | z
            · exact z
            · obtain rfl : j = k := by omega
              exact absurd ⟨rfl, hb.mpr q2⟩ e
    unfold stB
    by_cases h1 : hasC f c k 1 = 0
    · by_cases h2 : hasC f c k (-1) = 0
      · rw [if_pos h1, if_pos h2]
        have := key false ⟨fun q => by simp at q, fun q => absurd ⟨h1, h2⟩ q⟩
        rw [if_neg (fun q => by simp at q)] at this
        rw [b_or, b_0, Bool.or_false]
        exact this
      · rw [if_pos h1, if_neg h2, bt_set _ k (by omega) j hj]
        have := key true ⟨fun _ q => h2 q.2, fun _ => rfl⟩
        simpa using this
    · rw [if_neg h1, bt_set _ k (by omega) j hj]
      have := key true ⟨fun _ q => h1 q.1, fun _ => rfl⟩
      simpa using this
theorem Inv.to {ct : Nat → Int32} {nc nf nr m : Nat} {f : Nat → Int32} (I : Inv ct nc nf nr m f) : ∀ r, r < nr → ∃ n, f (48 + 9 * r + 3) = nI n ∧ n < 12 := fun r hr => by
  obtain ⟨n, h1, h2⟩ := (I.rids r hr).to
  exact ⟨n, h1, by have := I.hF; omega⟩
theorem stops_bt {f : Nat → Int32} {nr nf c j : Nat} (hto : ∀ r, r < nr → ∃ n, f (48 + 9 * r + 3) = nI n ∧ n < 12) (hnr : nr ≤ 24) (hnf : nf ≤ 12) (hj : j < 32) : bt (stopsC f nr nf c) j = true ↔ stp f nr nf c j := by
  unfold stopsC stp
  by_cases h : fullC f c = 0
  · rw [if_pos h, stB_bt hj nf (by omega), stA_bt hj nr (by omega) hto]
    exact or_congr Iff.rfl ⟨fun q => ⟨h, q⟩, fun q => q.2⟩
  · rw [if_neg h, stA_bt hj nr (by omega) hto]
    exact ⟨Or.inl, fun q => q.elim id (fun z => absurd z.1 h)⟩
theorem lowbits : ∀ n, n < 32 → ∀ i, i < 32 → bt (((1 : Int32) <<< (nI n &&& 31)) - 1) i = decide (i < n) := by decide +kernel
theorem b_zero {x : Int32} : x = 0 ↔ ∀ i, i < 32 → bt x i = false := ⟨fun e i _ => by rw [e, b_0], fun h => b_ext fun i hi => by rw [h i hi, b_0]⟩
theorem stp_lt {f : Nat → Int32} {nr nf c j : Nat} (hj : j < 2 ^ 31) (hto : ∀ r, r < nr → ∃ n, f (48 + 9 * r + 3) = nI n ∧ n < nf) (hnf : nf ≤ 12) (h : stp f nr nf c j) : j < nf := by
  rcases h with ⟨r, h1, h2, h3⟩ | ⟨_, h, _⟩
  · obtain ⟨n, h4, h5⟩ := hto r h1
    rw [h3, nI_eq hj (by omega)] at h4
    omega
  · exact h
section StopRows
variable {f : Nat → Int32} {nr nf c fl : Nat}
theorem isStop_up (hto : ∀ r, r < nr → ∃ n, f (48 + 9 * r + 3) = nI n ∧ n < nf) (hnr : nr ≤ 24) (hnf : nf ≤ 12) (hfl : f (16 + 8 * c) = nI fl) (hfl2 : fl < nf) : ¬ isStopC f nr nf c 1 = 0 ↔ ∃ j, fl < j ∧ j < nf ∧ stp f nr nf c j := by
  have hto' : ∀ r, r < nr → ∃ n, f (48 + 9 * r + 3) = nI n ∧ n < 12 := fun r hr => by
    obtain ⟨n, h1, h2⟩ := hto r hr
    exact ⟨n, h1, by omega⟩
  unfold isStopC
  rw [if_neg (by decide), hfl, nI_1]
  have key : (stopsC f nr nf c >>> (nI (fl + 1) &&& 31)) = 0 ↔ ¬ ∃ j, fl < j ∧ j < nf ∧ stp f nr nf c j := by
    rw [b_zero]
    constructor
    · rintro h ⟨j, h1, h2, h3⟩
      have h4 := h (j - (fl + 1)) (by omega)
      rw [b_sshr (fl + 1) (by omega) _ (by omega), if_pos (by omega), show fl + 1 + (j - (fl + 1)) = j by omega] at h4
      rw [(stops_bt hto' hnr hnf (by omega)).mpr h3] at h4
      cases h4
    · intro h i hi
      have z : ∀ j, fl < j → j < 32 → bt (stopsC f nr nf c) j = false := by
        intro j h1 h2
        cases hb : bt (stopsC f nr nf c) j with
        | false => rfl
        | true =>
          have h3 := (stops_bt hto' hnr hnf h2).mp hb
          exact absurd ⟨j, h1, stp_lt (by omega) hto hnf h3, h3⟩ h
      rw [b_sshr (fl + 1) (by omega) _ hi]
      split
      · exact z _ (by omega) (by omega)
      · exact z 31 (by omega) (by omega)
  by_cases q : (stopsC f nr nf c >>> (nI (fl + 1) &&& 31)) = 0
  · rw [if_pos q]
    exact ⟨fun z => absurd rfl z, fun z => absurd z (key.mp q)⟩
  · rw [if_neg q]
    exact ⟨fun _ => Classical.byContradiction fun z => q (key.mpr z), fun _ => by decide⟩
theorem isStop_dn (hto : ∀ r, r < nr → ∃ n, f (48 + 9 * r + 3) = nI n ∧ n < nf) (hnr : nr ≤ 24) (hnf : nf ≤ 12) (hfl : f (16 + 8 * c) = nI fl) (hfl2 : fl < nf) : ¬ isStopC f nr nf c (-1) = 0 ↔ ∃ j, j < fl ∧ stp f nr nf c j := by
  have hto' : ∀ r, r < nr → ∃ n, f (48 + 9 * r + 3) = nI n ∧ n < 12 := fun r hr => by
    obtain ⟨n, h1, h2⟩ := hto r hr
    exact ⟨n, h1, by omega⟩
  unfold isStopC
  rw [if_pos (by decide), if_neg (by decide), hfl]
  have key : (stopsC f nr nf c &&& ((1 <<< (nI fl &&& 31)) - 1)) = 0 ↔ ¬ ∃ j, j < fl ∧ stp f nr nf c j := by
    rw [b_zero]
    constructor
    · rintro h ⟨j, h1, h3⟩
      have h4 := h j (by omega)
      rw [b_and, lowbits fl (by omega) j (by omega), (stops_bt hto' hnr hnf (by omega)).mpr h3] at h4
      simp [h1] at h4
    · intro h i hi
      rw [b_and, lowbits fl (by omega) i hi]
      cases hb : bt (stopsC f nr nf c) i with
      | false => rfl
      | true =>
        have h3 := (stops_bt hto' hnr hnf hi).mp hb
        have : ¬ i < fl := fun q => h ⟨i, q, h3⟩
        simp [this]
  by_cases q : (stopsC f nr nf c &&& ((1 <<< (nI fl &&& 31)) - 1)) = 0
  · rw [if_pos q]
    exact ⟨fun z => absurd rfl z, fun z => absurd z (key.mp q)⟩
  · rw [if_neg q]
    exact ⟨fun _ => Classical.byContradiction fun z => q (key.mpr z), fun _ => by decide⟩
theorem isStop_0 : isStopC f nr nf c 0 = 0 := by unfold isStopC; rw [if_pos (by decide), if_pos (by decide)]
end StopRows
