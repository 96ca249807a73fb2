/-! HOW LONG RIDERS WAITED: a tick adds at most one -/
section W6
variable {nc nf nr m q : Nat} {f t ct : Nat → Int32}
theorem w6_off {c r : Nat} {y : Int32} (hc : c < 4) : offR f c r y (48 + 9 * q + 6) = f (48 + 9 * q + 6) := by
  unfold offR arrivesR
  split
  · rfl
  · split
    · rw [up_ne (by omega), up_ne (by omega), up_ne (by omega), up_ne (by omega)]
    · rfl
theorem w6_opA {c : Nat} {y : Int32} (hc : c < 4) : ∀ r, opA f c y r (48 + 9 * q + 6) = f (48 + 9 * q + 6)
  | 0 => rfl
  | r + 1 => by unfold opA; rw [w6_off hc, w6_opA hc r]
theorem w6_on {c r : Nat} {y w : Int32} (hc : c < 4) : onR ct f c r y w (48 + 9 * q + 6) = f (48 + 9 * q + 6) := by
  unfold onR onT
  split
  · split
    · rw [up_ne (by omega), up_ne (by omega), up_ne (by omega), up_ne (by omega)]
    · rw [up_ne (by omega), up_ne (by omega), up_ne (by omega)]
  · rfl
theorem w6_opB {c : Nat} {y w : Int32} (hc : c < 4) : ∀ r, opB ct f c y w r (48 + 9 * q + 6) = f (48 + 9 * q + 6)
  | 0 => rfl
  | r + 1 => by unfold opB; rw [w6_on hc, w6_opB hc r]
theorem w6_opX {c fl : Nat} {w : Int32} (hq : q < 24) : opX ct f c fl w (48 + 9 * q + 6) = f (48 + 9 * q + 6) := by
  have e : ∀ (g : Nat → Int32) (s : Nat), clr ct g c fl w s (48 + 9 * q + 6) = g (48 + 9 * q + 6) := fun g s => by
    unfold clr
    split
    · rfl
    · rw [up_ne (by unfold kix; omega)]
  unfold opX
  split
  · rfl
  · rw [e, e]
theorem w6_opens {c fl : Nat} (hc : c < 4) (hq : q < 24) : opensC f t ct nr nf c fl (48 + 9 * q + 6) = f (48 + 9 * q + 6) := by
  unfold opensC opEnd worksC opH opG
  rw [up_ne (by omega), up_ne (by omega), w6_opX hq, w6_opB hc, up_ne (by omega), w6_opA hc]
theorem w6_moves {c n : Nat} {y : Int32} (hc : c < 4) : movesC f c n y (48 + 9 * q + 6) = f (48 + 9 * q + 6) := by
  unfold movesC worksC
  rw [up_ne (by omega), up_ne (by omega)]
theorem w6_goes {c fl n k : Nat} (hc : c < 4) : goesC f t nr nf k c fl n (48 + 9 * q + 6) = f (48 + 9 * q + 6) := by
  unfold goesC goesD
  split
  · split
    · rw [up_ne (by omega)]
    · rw [w6_moves hc, up_ne (by omega)]
  · split
    · rw [w6_moves hc, up_ne (by omega)]
    · split
      · rw [w6_moves hc, up_ne (by omega)]
      · rw [w6_moves hc, up_ne (by omega), up_ne (by omega)]
theorem w6_stG {c : Nat} (hc : c < 4) : stepG f c (48 + 9 * q + 6) = f (48 + 9 * q + 6) := by
  unfold stepG
  split
  · rfl
  · rw [up_ne (by omega)]
theorem w6_stR {c k : Nat} (hc : c < 4) (hq : q < 24) : stR t ct nr nf k c f (48 + 9 * q + 6) = f (48 + 9 * q + 6) := by
  unfold stR stepR
  split
  · split
    · rw [w6_goes hc, w6_stG hc]
    · rw [w6_opens hc hq, w6_stG hc]
  · rw [w6_stG hc]
theorem w6_burns {c n : Nat} (hc : c < 4) (hq : q < nr) (h24 : nr ≤ 24) : burnsC f c nr n (48 + 9 * q + 6) = f (48 + 9 * q + 6) := by
  unfold burnsC
  split
  · rw [em_r (k := 6) hc (by decide) hq h24]
    have e : ∀ y, emV (up (up f (16 + 8 * c + 2) 0) (16 + 8 * c + 1) 0) q y 6 = f (48 + 9 * q + 6) := fun y => by
      unfold emV
      simp only [show ¬ (6 : Nat) = 4 by decide, show ¬ (6 : Nat) = 5 by decide, show ¬ (6 : Nat) = 7 by decide, if_false]
      split <;> rw [up_ne (by omega), up_ne (by omega)]
    rw [e]
    split
    · rfl
    · rw [up_ne (by omega), up_ne (by omega)]
  · rw [w6_moves hc, up_ne (by omega), up_ne (by omega)]
theorem w6_caA {fire : Int32} (hq : q < nr) (h24 : nr ≤ 24) : ∀ c, c ≤ 4 → caA t ct nr nf m fire f c (48 + 9 * q + 6) = f (48 + 9 * q + 6)
  | 0, _ => rfl
  | c + 1, h => by
    have ih := w6_caA (fire := fire) hq h24 c (by omega)
    unfold caA
    split
    · exact ih
    · split
      · rw [w6_stR (by omega) (by omega)]; exact ih
      · rw [w6_burns (by omega) hq h24]; exact ih
theorem w6_com {r : Nat} (hq : q < 24) : comC f r (48 + 9 * q + 6) = f (48 + 9 * q + 6) := by
  unfold comC
  rw [up_ne (by omega), up_ne (by omega)]
  split
  · unfold cmG
    rw [up_ne (by omega), up_ne (by omega)]
  · unfold shA cmG
    rw [if_neg (by omega), up_ne (by omega), up_ne (by omega)]
theorem w6_cmA (hq : q < 24) : ∀ r, cmA f r (48 + 9 * q + 6) = f (48 + 9 * q + 6)
  | 0 => rfl
  | r + 1 => by
    have ih := w6_cmA hq r
    unfold cmA
    split
    · split
      · rw [w6_com hq]; exact ih
      · exact ih
    · exact ih
theorem w6_gv4 {fl : Nat} (hq : q < 24) : ∀ k, gv4 t ct nr nf nc m fl f k (48 + 9 * q + 6) = f (48 + 9 * q + 6)
  | 0 => rfl
  | k + 1 => by unfold gv4; rw [giv_pl (by omega) (by omega)]; exact w6_gv4 hq k
theorem w6_gvA (hq : q < 24) : ∀ i, gvA t ct nr nf nc m f i (48 + 9 * q + 6) = f (48 + 9 * q + 6)
  | 0 => rfl
  | i + 1 => by unfold gvA; rw [w6_gv4 hq]; exact w6_gvA hq i
theorem w6_wt : ∀ r, wtA f r (48 + 9 * q + 6) = f (48 + 9 * q + 6) ∨ wtA f r (48 + 9 * q + 6) = f (48 + 9 * q + 6) + 1 ∧ q < r
  | 0 => Or.inl rfl
  | r + 1 => by
    have ih := w6_wt r
    unfold wtA
    split
    · by_cases e : q = r
      · subst e
        rw [up_eq]
        rcases ih with ih | ⟨_, z⟩
        · rw [ih]; exact Or.inr ⟨rfl, by omega⟩
        · omega
      · rw [up_ne (by omega)]
        exact ih.imp id fun z => ⟨z.1, by omega⟩
    · exact ih.imp id fun z => ⟨z.1, by omega⟩
theorem w6_tick (hq : q < nr) (h24 : nr ≤ 24) (hC : nc ≤ 4) : tickC t ct nr nf nc f (48 + 9 * q + 6) = f (48 + 9 * q + 6) ∨ tickC t ct nr nf nc f (48 + 9 * q + 6) = f (48 + 9 * q + 6) + 1 := by
  have e : up (tkC t ct nr nf nc (mm (cmA f nr)) (cmA f nr)) 0 (tkC t ct nr nf nc (mm (cmA f nr)) (cmA f nr) 0 + 1) (48 + 9 * q + 6) = f (48 + 9 * q + 6) := by
    rw [up_ne (by omega)]
    unfold tkC
    rw [w6_caA hq h24 nc hC]
    unfold tkB
    split
    · rw [w6_gvA (by omega), w6_cmA (by omega)]
    · unfold clK
      rw [if_neg (by omega), w6_cmA (by omega)]
  unfold tickC tkD
  rcases w6_wt (f := up (tkC t ct nr nf nc (mm (cmA f nr)) (cmA f nr)) 0 (tkC t ct nr nf nc (mm (cmA f nr)) (cmA f nr) 0 + 1)) (q := q) nr with z | ⟨z, _⟩
  · rw [z, e]; exact Or.inl rfl
  · rw [z, e]; exact Or.inr rfl
theorem w6_ticks (hq : q < nr) (h24 : nr ≤ 24) (hC : nc ≤ 4) (h0 : f (48 + 9 * q + 6) = 0) : ∀ n, ∃ w, ticksC t ct nr nf nc f n (48 + 9 * q + 6) = nI w ∧ w ≤ n
  | 0 => ⟨0, h0, Nat.le_refl _⟩
  | n + 1 => by
    obtain ⟨w, h1, h2⟩ := w6_ticks hq h24 hC h0 n
    unfold ticksC
    rcases w6_tick (f := ticksC t ct nr nf nc f n) (t := t) (ct := ct) (nf := nf) hq h24 hC with z | z
    · exact ⟨w, z.trans h1, by omega⟩
    · exact ⟨w + 1, z.trans (by rw [h1, nI_1]), by omega⟩
theorem wtd_b (h24 : nr ≤ 24) (hC : nc ≤ 4) (h0 : ∀ r, r < nr → f (48 + 9 * r + 6) = 0) (n : Nat) : ∀ r, r ≤ nr → ∃ w, wtdA (ticksC t ct nr nf nc f n) r = nI w ∧ w ≤ r * n
  | 0, _ => ⟨0, rfl, by omega⟩
  | r + 1, hr => by
    obtain ⟨w, h1, h2⟩ := wtd_b h24 hC h0 n r (by omega)
    obtain ⟨v, h3, h4⟩ := w6_ticks (t := t) (ct := ct) (nf := nf) (show r < nr by omega) h24 hC (h0 r (by omega)) n
    unfold wtdA
    refine ⟨w + v, by rw [h1, h3, nI_add], ?_⟩
    rw [Nat.add_mul]
    omega
end W6
