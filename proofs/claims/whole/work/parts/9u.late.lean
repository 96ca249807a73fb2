/-! PLACE 3 (LATE) STAYS AS IT IS -/
section W3
variable {nc nf nr m : Nat} {f t ct : Nat → Int32}
theorem l3_off {c r : Nat} {y : Int32} (hc : c < 4) : offR f c r y 3 = f 3 := by
  unfold offR arrivesR
  split
  · rfl
  · split
    · rw [up_ne (by omega), up_ne (by omega), up_ne (by omega), up_ne (by omega)]
    · rfl
theorem l3_opA {c : Nat} {y : Int32} (hc : c < 4) : ∀ r, opA f c y r 3 = f 3
  | 0 => rfl
  | r + 1 => by unfold opA; rw [l3_off hc, l3_opA hc r]
theorem l3_on {c r : Nat} {y w : Int32} (hc : c < 4) : onR ct f c r y w 3 = f 3 := by
  unfold onR onT
  split
  · split
    · rw [up_ne (by omega), up_ne (by omega), up_ne (by omega), up_ne (by omega)]
    · rw [up_ne (by omega), up_ne (by omega), up_ne (by omega)]
  · rfl
theorem l3_opB {c : Nat} {y w : Int32} (hc : c < 4) : ∀ r, opB ct f c y w r 3 = f 3
  | 0 => rfl
  | r + 1 => by unfold opB; rw [l3_on hc, l3_opB hc r]
theorem l3_opX {c fl : Nat} {w : Int32} : opX ct f c fl w 3 = f 3 := by
  have e : ∀ (g : Nat → Int32) (s : Nat), clr ct g c fl w s 3 = g 3 := fun g s => by
    unfold clr
    split
    · rfl
    · rw [up_ne (by unfold kix; omega)]
  unfold opX
  split
  · rfl
  · rw [e, e]
theorem l3_opens {c fl : Nat} (hc : c < 4) : opensC f t ct nr nf c fl 3 = f 3 := by
  unfold opensC opEnd worksC opH opG
  rw [up_ne (by omega), up_ne (by omega), l3_opX, l3_opB hc, up_ne (by omega), l3_opA hc]
theorem l3_moves {c n : Nat} {y : Int32} (hc : c < 4) : movesC f c n y 3 = f 3 := by
  unfold movesC worksC
  rw [up_ne (by omega), up_ne (by omega)]
theorem l3_goes {c fl n k : Nat} (hc : c < 4) : goesC f t nr nf k c fl n 3 = f 3 := by
  unfold goesC goesD
  split
  · split
    · rw [up_ne (by omega)]
    · rw [l3_moves hc, up_ne (by omega)]
  · split
    · rw [l3_moves hc, up_ne (by omega)]
    · split
      · rw [l3_moves hc, up_ne (by omega)]
      · rw [l3_moves hc, up_ne (by omega), up_ne (by omega)]
theorem l3_stG {c : Nat} (hc : c < 4) : stepG f c 3 = f 3 := by
  unfold stepG
  split
  · rfl
  · rw [up_ne (by omega)]
theorem l3_stR {c k : Nat} (hc : c < 4) : stR t ct nr nf k c f 3 = f 3 := by
  unfold stR stepR
  split
  · split
    · rw [l3_goes hc, l3_stG hc]
    · rw [l3_opens hc, l3_stG hc]
  · rw [l3_stG hc]
theorem l3_burns {c n : Nat} (hc : c < 4) (h24 : nr ≤ 24) : burnsC f c nr n 3 = f 3 := by
  unfold burnsC
  split
  · rw [em_lo (by omega) (by omega), up_ne (by omega), up_ne (by omega)]
  · rw [l3_moves hc, up_ne (by omega), up_ne (by omega)]
theorem l3_caA {fire : Int32} (h24 : nr ≤ 24) : ∀ c, c ≤ 4 → caA t ct nr nf m fire f c 3 = f 3
  | 0, _ => rfl
  | c + 1, h => by
    have ih := l3_caA (fire := fire) h24 c (by omega)
    unfold caA
    split
    · exact ih
    · split
      · rw [l3_stR (by omega)]; exact ih
      · rw [l3_burns (by omega) h24]; exact ih
theorem l3_com {r : Nat} : comC f r 3 = f 3 := by
  unfold comC
  rw [up_ne (by omega), up_ne (by omega)]
  split
  · unfold cmG
    rw [up_ne (by omega), up_ne (by omega)]
  · unfold shA cmG
    rw [if_neg (by omega), up_ne (by omega), up_ne (by omega)]
theorem l3_cmA : ∀ r, cmA f r 3 = f 3
  | 0 => rfl
  | r + 1 => by
    have ih := l3_cmA r
    unfold cmA
    split
    · split
      · rw [l3_com]; exact ih
      · exact ih
    · exact ih
theorem l3_gv4 {fl : Nat} : ∀ k, gv4 t ct nr nf nc m fl f k 3 = f 3
  | 0 => rfl
  | k + 1 => by unfold gv4; rw [giv_pl (by omega) (by omega)]; exact l3_gv4 k
theorem l3_gvA : ∀ i, gvA t ct nr nf nc m f i 3 = f 3
  | 0 => rfl
  | i + 1 => by unfold gvA; rw [l3_gv4]; exact l3_gvA i
theorem l3_wt : ∀ r, wtA f r 3 = f 3
  | 0 => rfl
  | r + 1 => by
    have ih := l3_wt r
    unfold wtA
    split
    · rw [up_ne (by omega)]; exact ih
    · exact ih
theorem l3_tick (h24 : nr ≤ 24) (hC : nc ≤ 4) : tickC t ct nr nf nc f 3 = f 3 := by
  unfold tickC tkD tkC tkB
  rw [l3_wt, up_ne (by decide), l3_caA h24 nc hC]
  split
  · rw [l3_gvA, l3_cmA]
  · unfold clK
    rw [if_neg (by omega), l3_cmA]
theorem l3_ticks (h24 : nr ≤ 24) (hC : nc ≤ 4) : ∀ n, ticksC t ct nr nf nc f n 3 = f 3
  | 0 => rfl
  | n + 1 => by
    have ih := l3_ticks h24 hC n
    unfold ticksC
    rw [l3_tick h24 hC]; exact ih
theorem l3_cw {r : Nat} {a b s : Int32} : cwF f r a b s 3 = f 3 := by
  unfold cwF
  rw [l3_com, ad_ne (by omega) (by decide)]
theorem l3_ot {c : Nat} (hc : c < 4) : otF f c nr 3 = f 3 := by
  unfold otF otK otG
  rw [if_neg (by omega), up_ne (by omega), up_ne (by omega), em_lo (by omega) (by omega), up_ne (by omega)]
end W3
/-! WHO IS DONE STAYS DONE -/
section D3
variable {nc nf nr m c r : Nat} {f g u t ct : Nat → Int32}
theorem d3_opA {y : Int32} (I : Inv ct nc nf nr m g) (hc : c < nc) (hr : r < nr) (h3 : g (48 + 9 * r + 4) = 3) : ∀ n, n ≤ nr → ∀ k, k < 9 → opA g c y n (48 + 9 * r + k) = g (48 + 9 * r + k)
  | 0, _ => fun _ _ => rfl
  | n + 1, h => by
    have hC := I.hc
    have h24 := I.hr
    have ih := d3_opA (y := y) I hc hr h3 n (by omega)
    have i2 := (ih 4 (by decide)).trans h3
    have In := I.i_opA (y := y) hc n (by omega)
    intro k hk
    unfold opA offR
    by_cases e : n = r
    · subst e
      have : abit (opA g c y n (16 + 8 * c + 3)) n = 0 := by
        rw [abit_0 (by omega)]
        cases hb : bt (opA g c y n (16 + 8 * c + 3)) n with
        | false => rfl
        | true =>
          have := (In.abo c hc n (by omega) hb).2.1
          rw [i2] at this
          exact absurd this (by decide)
      rw [if_pos this]
      exact ih k hk
    · unfold arrivesR
      split
      · exact ih k hk
      · split
        · rw [up_ne (by omega), up_ne (by omega), up_ne (by omega), up_ne (by omega)]
          exact ih k hk
        · exact ih k hk
theorem d3_opB {y w : Int32} (hc : c < 4) (h3 : g (48 + 9 * r + 4) = 3) : ∀ n k, k < 9 → opB ct g c y w n (48 + 9 * r + k) = g (48 + 9 * r + k)
  | 0 => fun _ _ => rfl
  | n + 1 => by
    have ih := d3_opB (y := y) (w := w) hc h3 n
    intro k hk
    by_cases e : n = r
    · subst e
      have i4 := (ih 4 (by decide)).trans h3
      unfold opB onR
      rw [if_neg (fun q => absurd (q.2.1.symm.trans i4) (by decide))]
      exact ih k hk
    · refine Eq.trans ?_ (ih k hk)
      rw [opB]
      unfold onR onT
      split
      · split
        · rw [up_ne (by omega), up_ne (by omega), up_ne (by omega), up_ne (by omega)]
        · rw [up_ne (by omega), up_ne (by omega), up_ne (by omega)]
      · rfl
theorem d3_stR {k0 : Nat} (I : Inv ct nc nf nr m u) (hc : c < nc) (hr : r < nr) (h3 : u (48 + 9 * r + 4) = 3) : ∀ k, k < 9 → stR t ct nr nf k0 c u (48 + 9 * r + k) = u (48 + 9 * r + k) := by
  have hC := I.hc
  have h24 := I.hr
  have I1 := I.i_stepG hc
  have sg : ∀ k, k < 9 → stepG u c (48 + 9 * r + k) = u (48 + 9 * r + k) := fun k hk => pl_stG (by omega)
  intro k hk
  unfold stR stepR
  split
  · split
    · rw [pl_goes (by omega) (by omega) (by omega) (by omega)]; exact sg k hk
    · unfold opensC opEnd opH worksC
      have b : ∀ k, k < 9 → opG (stepG u c) c (flo u c) nr (48 + 9 * r + k) = u (48 + 9 * r + k) := fun k hk => by
        unfold opG
        rw [d3_opA I1 hc hr ((sg 4 (by decide)).trans h3) nr (Nat.le_refl _) k hk]
        exact sg k hk
      rw [up_ne (by omega), up_ne (by omega), opX_to (by omega) hk, d3_opB (by omega) ((up_ne (by omega)).trans ((b 4 (by decide)).trans h3)) nr k hk, up_ne (by omega)]
      exact b k hk
  · exact sg k hk
theorem d3_burns {n : Nat} (I : Inv ct nc nf nr m u) (hc : c < nc) (hr : r < nr) (h3 : u (48 + 9 * r + 4) = 3) : ∀ k, k < 9 → burnsC u c nr n (48 + 9 * r + k) = u (48 + 9 * r + k) := by
  have hC := I.hc
  have h24 := I.hr
  intro k hk
  unfold burnsC
  split
  · rw [em_r (by omega) hk hr h24, if_neg, up_ne (by omega), up_ne (by omega)]
    intro hb
    rw [up_ne (by omega), up_ne (by omega)] at hb
    have := (I.abo c hc r (by omega) hb).2.1
    rw [h3] at this
    exact absurd this (by decide)
  · unfold movesC worksC
    rw [up_ne (by omega), up_ne (by omega), up_ne (by omega), up_ne (by omega)]
theorem d3_caA {fire : Int32} (hT : Tok t nf) (I : Inv ct nc nf nr m u) (hr : r < nr) (h3 : u (48 + 9 * r + 4) = 3) : ∀ c, c ≤ nc → ∀ k, k < 9 → caA t ct nr nf m fire u c (48 + 9 * r + k) = u (48 + 9 * r + k)
  | 0, _ => fun _ _ => rfl
  | c + 1, h => by
    have ih := d3_caA (fire := fire) hT I hr h3 c (by omega)
    have Ic := caA_ok (fire := fire) hT I c (by omega)
    have i4 := (ih 4 (by decide)).trans h3
    intro k hk
    unfold caA
    split
    · exact ih k hk
    · split
      · rw [d3_stR Ic (by omega) hr i4 k hk]; exact ih k hk
      · rw [d3_burns Ic (by omega) hr i4 k hk]; exact ih k hk
theorem d3_cmA (hr : r < nr) (h24 : nr ≤ 24) (h3 : f (48 + 9 * r + 4) = 3) : ∀ n, n ≤ nr → ∀ k, k < 9 → cmA f n (48 + 9 * r + k) = f (48 + 9 * r + k)
  | 0, _ => fun _ _ => rfl
  | n + 1, h => by
    have ih := d3_cmA hr h24 h3 n (by omega)
    have i4 := (ih 4 (by decide)).trans h3
    intro k hk
    unfold cmA
    split
    · rename_i e0
      split
      · rw [com_pl (by omega) (by omega) (by omega) (fun z => by
          have : n = r := by omega
          subst this
          rw [i4] at e0
          exact absurd e0 (by decide)) (fun z => by
          have : n = r := by omega
          subst this
          rw [i4] at e0
          exact absurd e0 (by decide))]
        exact ih k hk
      · exact ih k hk
    · exact ih k hk
theorem d3_gv4 {fl : Nat} (hr : r < 24) {k : Nat} (hk : k < 9) : ∀ i, gv4 t ct nr nf nc m fl f i (48 + 9 * r + k) = f (48 + 9 * r + k)
  | 0 => rfl
  | i + 1 => by unfold gv4; rw [giv_pl (by omega) (by omega)]; exact d3_gv4 hr hk i
theorem d3_gvA (hr : r < 24) {k : Nat} (hk : k < 9) : ∀ i, gvA t ct nr nf nc m f i (48 + 9 * r + k) = f (48 + 9 * r + k)
  | 0 => rfl
  | i + 1 => by unfold gvA; rw [d3_gv4 hr hk]; exact d3_gvA hr hk i
theorem d3_wt (h3 : f (48 + 9 * r + 4) = 3) : ∀ n k, k < 9 → wtA f n (48 + 9 * r + k) = f (48 + 9 * r + k)
  | 0 => fun _ _ => rfl
  | n + 1 => by
    have ih := d3_wt h3 n
    have i4 := (ih 4 (by decide)).trans h3
    intro k hk
    unfold wtA
    split
    · rename_i e0
      by_cases e : n = r
      · subst e
        rw [i4] at e0
        exact absurd e0 (by decide)
      · rw [up_ne (by omega)]; exact ih k hk
    · exact ih k hk
theorem d3_tick (hT : Tok t nf) (W : Row ct nc nf nr f) (hr : r < nr) (h3 : f (48 + 9 * r + 4) = 3) : ∀ k, k < 9 → tickC t ct nr nf nc f (48 + 9 * r + k) = f (48 + 9 * r + k) := by
  obtain ⟨⟨m, I⟩, G, _⟩ := W
  have h24 := I.hr
  obtain ⟨m', I', g'⟩ := cmA_ok I G nr (Nat.le_refl _)
  have c1 := d3_cmA hr h24 h3 nr (Nat.le_refl _)
  have b : ∀ k, k < 9 → tkB t ct nr nf nc m' (cmA f nr) (48 + 9 * r + k) = f (48 + 9 * r + k) := fun k hk => by
    unfold tkB
    split
    · rw [d3_gvA (by omega) hk]; exact c1 k hk
    · unfold clK
      rw [if_neg (by omega)]; exact c1 k hk
  have IB : Inv ct nc nf nr m' (tkB t ct nr nf nc m' (cmA f nr)) := by
    unfold tkB
    split
    · exact (gvA_ok I' g' nf (Nat.le_refl _)).1
    · exact I'.i_clK 48 (by decide)
  have cC : ∀ k, k < 9 → tkC t ct nr nf nc m' (cmA f nr) (48 + 9 * r + k) = f (48 + 9 * r + k) := fun k hk => by
    unfold tkC
    rw [d3_caA hT IB hr ((b 4 (by decide)).trans h3) nc (Nat.le_refl _) k hk]
    exact b k hk
  intro k hk
  unfold tickC tkD
  rw [I'.i_mm, d3_wt ((up_ne (by omega)).trans ((cC 4 (by decide)).trans h3)) nr k hk, up_ne (by omega)]
  exact cC k hk
theorem d3_ticks (hT : Tok t nf) (W : Row ct nc nf nr f) (hr : r < nr) (h3 : f (48 + 9 * r + 4) = 3) : ∀ n k, k < 9 → ticksC t ct nr nf nc f n (48 + 9 * r + k) = f (48 + 9 * r + k)
  | 0 => fun _ _ => rfl
  | n + 1 => by
    have ih := d3_ticks hT W hr h3 n
    intro k hk
    unfold ticksC
    rw [d3_tick hT (W.ticks hT n) hr ((ih 4 (by decide)).trans h3) k hk]
    exact ih k hk
end D3
/-! A CAR GOES OUT OF SERVICE: the row stays good -/
section RowOt
variable {nc nf nr m c : Nat} {f g t ct : Nat → Int32}
theorem otK_0 : otK f c 264 = f := funext fun j => if_neg fun q => by omega
theorem Inv.i_otK (I : Inv ct nc nf nr m f) : ∀ i, i ≤ 48 → Inv ct nc nf nr m (otK f c (264 + i))
  | 0, _ => by rw [otK_0]; exact I
  | i + 1, h => by
    have ih := Inv.i_otK I i (by omega)
    have e := otK_step (f := f) (c := c) (i := 264 + i) (by omega) (if f (264 + i) = nI c + 1 then 0 else f (264 + i)) rfl
    rw [show 264 + (i + 1) = 264 + i + 1 from rfl, ← e]
    by_cases z : f (264 + i) = nI c + 1
    · rw [if_pos z]; exact ih.setK0 (by omega)
    · rw [if_neg z]
      have e2 : up (otK f c (264 + i)) (264 + i) (f (264 + i)) = otK f c (264 + i) := funext fun j => by
        by_cases y : j = 264 + i
        · rw [y, up_eq]; unfold otK; rw [if_neg (by omega)]
        · rw [up_ne y]
      rw [e2]; exact ih
theorem Row_ot (W : Row ct nc nf nr f) (hc : c < nc) : Row ct nc nf nr (otF f c nr) := by
  obtain ⟨⟨m, I⟩, G, A⟩ := W
  have hC := I.hc
  have h24 := I.hr
  have I1 := I.setIn (v := 0) hc (Or.inl rfl)
  have I4 : Inv ct nc nf nr m (otG f c nr) := ((I1.em hc).setDr (n := 0) (v := 0) hc rfl (by decide)).setWy (v := 0) hc (Or.inl rfl)
  have pl : ∀ j, j < 264 → otF f c nr j = otG f c nr j := fun j hj => by
    unfold otF otK
    rw [if_neg (by omega)]
  have lo : ∀ j, j < 16 → otF f c nr j = f j := fun j hj => by
    rw [pl j (by omega)]
    unfold otG
    rw [up_ne (by omega), up_ne (by omega), em_lo (by omega) (by omega), up_ne (by omega)]
  refine ⟨⟨m, I4.i_otK 48 (by decide)⟩, ?_, ?_⟩
  · unfold GI
    rw [lo 1 (by decide), lo 2 (by decide), lo 4 (by decide)]
    exact G
  · refine A.same (fun i hi => ?_) fun r hr h1 => ?_
    · have e : otG f c nr (264 + i) = f (264 + i) := by
        unfold otG
        rw [up_ne (by omega), up_ne (by omega), em_hi (by omega) (by omega) h24, up_ne (by omega)]
      unfold otF otK
      rw [e]
      by_cases z : 264 ≤ 264 + i ∧ 264 + i < 312 ∧ f (264 + i) = nI c + 1
      · rw [if_pos z]; exact Or.inr rfl
      · rw [if_neg z]; exact Or.inl rfl
    · have nb : ¬ bt (up f (16 + 8 * c + 4) 0 (16 + 8 * c + 3)) r = true := fun hb => by
        rw [up_ne (by omega)] at hb
        have := (I.abo c hc r (by omega) hb).2.1
        rw [h1] at this
        exact absurd this (by decide)
      have k : ∀ k, k < 9 → otF f c nr (48 + 9 * r + k) = f (48 + 9 * r + k) := fun k hk => by
        rw [pl _ (by omega)]
        unfold otG
        rw [up_ne (by omega), up_ne (by omega), em_r (by omega) hk hr h24, if_neg nb, up_ne (by omega)]
      exact ⟨(k 4 (by decide)).trans h1, k 5 (by decide), k 3 (by decide), k 0 (by decide)⟩
end RowOt
