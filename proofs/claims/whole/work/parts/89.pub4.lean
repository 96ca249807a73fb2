/-! THE REFERENCE'S FACE: count -/
noncomputable def quV (t ct : Nat → Int32) (nr nf nc : Nat) (f : Nat → Int32) : Int32 := Classical.epsilon (QV t ct nr nf nc f)
theorem quV_eq {t ct : Nat → Int32} {nr nf nc : Nat} {f : Nat → Int32} {v : Int32} (h : QV t ct nr nf nc f v) : v = quV t ct nr nf nc f := h.uniq (Classical.epsilon_spec ⟨v, h⟩)
noncomputable def cntV (f t ct rt : Nat → Int32) (nc nf nr nr' n k tl : Nat) (s : Nat → Int32) (i : Int) : Int32 ⊕ Nat :=
  if i = 0 then .inl (nI nf) else if i = 1 then .inl (nI nc) else if i = 2 then .inl (nI nr') else if i = 3 then .inl (tellsT t 3) else if i = 4 then .inl (f 3) else
  if i = 5 then .inl (f 2) else if i = 6 then .inl (tellsT t 6) else if i = 7 then .inl (f 0) else if i = 8 then .inl (f 1) else if i = 9 then .inl (mnyA f 1 nr') else
  if i = 10 then .inl (mnyA f 2 nr') else if i = 11 then .inl (mnyA f 3 nr') else if i = 12 then .inl (nI (clN f nr' (4 * nf))) else if i = 13 then .inl (f 5) else if i = 14 then .inl (wtdA f nr') else
  if i = 15 then .inl (if peakC f t (min 8 (mm f)) = 0 then 0 else 1) else if i = 16 then .inl (nI (wrsN f nr') - 1) else if i = 17 then .inl (nI (bsA (wtP t ct rt nc nf nr (f 3)) 3)) else if i = 18 then .inl (rmA (rmP t ct rt nc nf nr (f 2) (f 3)) 6 1) else if i = 19 then .inl (msA (mcP t ct rt nc nf nr (f 2) (f 3)) nc).1 else
  if i = 20 then .inl (nI n) else if i = 21 then .inl (nI k) else if i = 22 then .inl (nI tl) else if i = 23 then .inl (s 0) else if i = 24 then .inl (s 1) else
  if i = 25 then .inl (s 2) else if i = 26 then .inl (nI (ovS f nr')) else if i = 27 then .inl (nI (thA (wkP t ct rt nc nf nr (f 3)) 3)) else if i = 28 then .inl (FP.f2i (wrkA f nc)) else if i = 29 then .inl (quV t ct nr' nf nc f) else .inr 1
theorem cnt_no {f t ct rt : Nat → Int32} {nc nf nr nr' n k tl : Nat} {s : Nat → Int32} {i : Int} (h : i < 0 ∨ 29 < i) : cntV f t ct rt nc nf nr nr' n k tl s i = .inr 1 := by
  unfold cntV
  rw [if_neg (by omega), if_neg (by omega), if_neg (by omega), if_neg (by omega), if_neg (by omega), if_neg (by omega), if_neg (by omega), if_neg (by omega), if_neg (by omega), if_neg (by omega)]
  rw [if_neg (by omega), if_neg (by omega), if_neg (by omega), if_neg (by omega), if_neg (by omega), if_neg (by omega), if_neg (by omega), if_neg (by omega), if_neg (by omega), if_neg (by omega)]
  rw [if_neg (by omega), if_neg (by omega), if_neg (by omega), if_neg (by omega), if_neg (by omega), if_neg (by omega), if_neg (by omega), if_neg (by omega), if_neg (by omega), if_neg (by omega)]
section Pub4
variable {l : Launch} {x : CX} {mo nc nf nr nr' m n k tl : Nat} {g : PH} {f F t ct rt s : Nat → Int32}
theorem GI.p (G : GI nc f) : f 2 = 0 ∨ f 2 = 1 ∨ f 2 = 2 := G.2.1
set_option maxHeartbeats 2000000 in
theorem p_count {v : Int32} (w : RX mo t ct rt g) (q : NR mo g f) (T : TD t ct rt nc nf nr) (W : Row ct nc nf nr' f) (hn : hI g mo 24 = nI n) (hk : hI g mo 26 = nI k) (ht : hI g mo 11 = nI tl) (hs : ∀ i, i < 3 → hI g (mo + 3) i = s i) : CI l x mX8_count 14 0 0 [.ref mo, .int v] g (fun u h' => PQ mo g f (cntV f t ct rt nc nf nr nr' n k tl s v.toInt) u h') := by
  obtain ⟨⟨m, I⟩, G, A⟩ := W
  have W : Row ct nc nf nr' f := ⟨⟨m, I⟩, G, A⟩
  have w1 : RX mo t ct rt (sI g mo 1 0) := w.sg s10
  have w2 := w.1.1.row 2 2 312 (by decide)
  have w3 := w.1.1.row 3 3 3 (by decide)
  have w4 := w.1.1.row 4 4 7 (by decide)
  have v2 : ∀ j : Nat, j < 312 → vp_in (nI j) (hK g (mo + 2)).2 := fun j hj => by rw [w2.2.2]; exact vp_in_nI hj (by decide)
  have v3 : ∀ j : Nat, j < 3 → vp_in (nI j) (hK g (mo + 3)).2 := fun j hj => by rw [w3.2.2]; exact vp_in_nI hj (by decide)
  have v4 : ∀ j : Nat, j < 7 → vp_in (nI j) (hK g (mo + 4)).2 := fun j hj => by rw [w4.2.2]; exact vp_in_nI hj (by decide)
  have c1 : hI (sI g mo 1 0) mo 1 = 0 := gI _ _ _ _
  have nowE : ∀ j : Nat, j < 312 → hI (sI g mo 1 0) (mo + 2) j = f j := q.s1
  have ok0 : ∀ u u' : Int32, cntV f t ct rt nc nf nr nr' n k tl s v.toInt = .inl u' → u = u' → ∃ r, some (Value.int u) = some (.int r) ∧ PQ mo g f (cntV f t ct rt nc nf nr nr' n k tl s v.toInt) r (sI g mo 1 0) := fun u u' e1 e2 => ⟨_, rfl, PQ.mkOk (SG.refl _ _) q.s1 e1 e2 c1⟩
  have ok1 : ∀ (S : List Nat) (u u' : Int32) (h' : PH), (∀ a ∈ S, a = 2 ∨ a = 11 ∨ a = 12 ∨ a = 16 ∨ a = 17) → SB S mo (sI g mo 1 0) h' → NR mo h' f → cntV f t ct rt nc nf nr nr' n k tl s v.toInt = .inl u' → u = u' → ∃ r, some (Value.int u) = some (.int r) ∧ PQ mo g f (cntV f t ct rt nc nf nr nr' n k tl s v.toInt) r h' := fun S u u' h' hS sb nr e1 e2 => ⟨_, rfl, PQ.mkOk (sb.sg hS) nr e1 e2 (by rw [sb.fldE (fun z => by rcases hS 0 z with y | y | y | y | y <;> omega)]; exact c1)⟩
  have now : ∀ (j : Nat) (J : Int32), J = nI j → j < 312 → cntV f t ct rt nc nf nr nr' n k tl s v.toInt = .inl (f j) → ∃ b, hR g mo 2 = some b ∧ (hK g b).1 = 100 ∧ vp_in J (hK g b).2 ∧ ∃ r, some (Value.int (hI (sI g mo 1 0) b J.toNatClampNeg)) = some (.int r) ∧ PQ mo g f (cntV f t ct rt nc nf nr nr' n k tl s v.toInt) r (sI g mo 1 0) := by
    rintro j _ rfl hj e
    refine ⟨mo + 2, w2.1, w2.2.1, v2 j hj, ok0 _ _ e ?_⟩
    rw [nI_clamp (by omega)]
    exact nowE j hj
  have mny : ∀ (J : Int32), cntV f t ct rt nc nf nr nr' n k tl s v.toInt = .inl (mnyA f J nr') → ∀ V : Int32, V = J → ∃ q39 : Int32 → PH → Prop, CI l x mX8_many 1 0 0 [.ref mo, .int V] (sI g mo 1 0) q39 ∧ ∀ (r42 : Int32) (h41 : PH), q39 r42 h41 → ∃ r, some (Value.int r42) = some (.int r) ∧ PQ mo g f (cntV f t ct rt nc nf nr nr' n k tl s v.toInt) r h41 := by
    rintro J e _ rfl
    refine ⟨_, r_same w1.1.1 q.s1 (c_many w1.1.1 I.h6 I.hr), ?_⟩
    rintro _ h' ⟨rfl, s', n'⟩
    exact ok1 [2] _ _ h' (by decide) s' n' e rfl
  have sta : ∀ (j : Nat), j < 3 → cntV f t ct rt nc nf nr nr' n k tl s v.toInt = .inl (s j) → v - 23 = nI j → ∃ b, hR g mo 3 = some b ∧ (hK g b).1 = 100 ∧ vp_in (v - 23) (hK g b).2 ∧ ∃ r, some (Value.int (hI (sI g mo 1 0) b (v - 23).toNatClampNeg)) = some (.int r) ∧ PQ mo g f (cntV f t ct rt nc nf nr nr' n k tl s v.toInt) r (sI g mo 1 0) := by
    intro j hj e ev
    rw [ev]
    refine ⟨mo + 3, w3.1, w3.2.1, v3 j hj, ok0 _ _ e ?_⟩
    rw [nI_clamp (by omega), gIa _ _ _ _ (by omega)]
    exact hs j hj
  have tld : ∀ (j : Nat) (u : Int32), j < 2 → cntV f t ct rt nc nf nr nr' n k tl s v.toInt = .inl u → t j = u → v = nI j → ∃ b, hR g mo 4 = some b ∧ (hK g b).1 = 100 ∧ vp_in v (hK g b).2 ∧ ∃ r, some (Value.int (hI (sI g mo 1 0) b v.toNatClampNeg)) = some (.int r) ∧ PQ mo g f (cntV f t ct rt nc nf nr nr' n k tl s v.toInt) r (sI g mo 1 0) := by
    intro j u hj e eu ev
    have h9 : vp_in v (hK g (mo + 4)).2 := by rw [ev]; exact v4 j (by omega)
    refine ⟨mo + 4, w4.1, w4.2.1, h9, ok0 _ _ e ?_⟩
    rw [ev, nI_clamp (by omega)]
    exact (w1.1.2.1 j).trans eu
  have tel : ∀ (j : Nat) (J : Int32), J = nI j → j < 7 → cntV f t ct rt nc nf nr nr' n k tl s v.toInt = .inl (tellsT t j) → ∃ q15 : Int32 → PH → Prop, CI l x mX8_tells 0 0 0 [.ref mo, .int J] (sI g mo 1 0) q15 ∧ ∀ (r18 : Int32) (h17 : PH), q15 r18 h17 → ∃ r, some (Value.int r18) = some (.int r) ∧ PQ mo g f (cntV f t ct rt nc nf nr nr' n k tl s v.toInt) r h17 := by
    rintro j _ rfl hj e
    refine ⟨_, c_tells w1.1.1 hj, ?_⟩
    rintro _ _ ⟨rfl, rfl⟩
    refine ok0 _ _ e ?_
    rw [show hI (sI g mo 1 0) (mo + 4) = t from funext fun k => w1.1.2.1 k]
  refine Cm.of (by decide) (Nat.le_of_ble_eq_true rfl) (vX8_count_0 ⟨w.1.1.1, ?_⟩)
  refine ⟨fun e => tld 0 _ (by decide) (by rw [e]; rfl) T.tk.1.1 (of_toInt (i := 0) e (by decide)), fun e => tld 1 _ (by decide) (by rw [e]; rfl) T.tk.2 (of_toInt (i := 1) e (by decide)), fun e => ?_, fun e => tel 3 _ rfl (by decide) (by rw [e]; rfl), fun e => now 3 _ rfl (by decide) (by rw [e]; rfl), fun e => now 2 _ rfl (by decide) (by rw [e]; rfl), fun e => tel 6 _ rfl (by decide) (by rw [e]; rfl), fun e => now 0 _ rfl (by decide) (by rw [e]; rfl), fun e => now 1 _ rfl (by decide) (by rw [e]; rfl), fun e => mny 1 (by rw [e]; rfl) _ (by rw [of_toInt (i := 9) e (by decide)]; decide), fun e => mny 2 (by rw [e]; rfl) _ (by rw [of_toInt (i := 10) e (by decide)]; decide), fun e => mny 3 (by rw [e]; rfl) _ (by rw [of_toInt (i := 11) e (by decide)]; decide), ?_⟩
  · refine ⟨mo + 2, w2.1, w2.2.1, v2 6 (by decide), ok0 _ (nI nr') (by rw [e]; rfl) ?_⟩
    exact (nowE 6 (by decide)).trans I.h6
  refine ⟨fun e => ⟨_, r_same w1.1.1 q.s1 (c_calls w1.1 T.tk T.f12 I.h6 I.hr), ?_⟩, fun e => now 5 _ rfl (by decide) (by rw [e]; rfl), fun e => ⟨_, r_same w1.1.1 q.s1 (c_waited w1.1.1 I.h6 I.hr), ?_⟩, fun e => ⟨_, r_same w1.1.1 q.s1 (c_isPeak (n := min 8 m) w1.1.1 I.h7 (by have := I.mlt; omega) rfl w1.1.2.1), ?_⟩, fun e => ⟨_, r_same w1.1.1 q.s1 (c_worst w1.1.1 I.h6 I.hr), ?_⟩, fun e => ⟨_, r_best w1 q.s1 T, ?_⟩, fun e => ⟨_, r_room w1 q.s1 T G.p, ?_⟩, fun e => ⟨_, r_missed w1 q.s1 T G.p, ?_⟩, fun e => ok0 _ (nI n) (by rw [e]; rfl) hn, fun e => ok0 _ (nI k) (by rw [e]; rfl) hk, fun e => ok0 _ (nI tl) (by rw [e]; rfl) ht, ?_⟩
  · rintro _ h' ⟨rfl, s', n'⟩
    exact ok1 [2] _ (nI (clN f nr' (4 * nf))) h' (by decide) s' n' (by rw [e]; rfl) rfl
  · rintro _ h' ⟨rfl, s', n'⟩
    exact ok1 [2] _ (wtdA f nr') h' (by decide) s' n' (by rw [e]; rfl) rfl
  · rintro _ h' ⟨rfl, s', n'⟩
    exact ok1 [2] _ (if peakC f t (min 8 (mm f)) = 0 then 0 else 1) h' (by decide) s' n' (by rw [e]; rfl) (by rw [I.i_mm])
  · rintro _ h' ⟨rfl, s', n'⟩
    exact ok1 [2] _ (nI (wrsN f nr') - 1) h' (by decide) s' n' (by rw [e]; rfl) rfl
  · rintro _ h' ⟨rfl, s', n'⟩
    exact ok1 _ _ (nI (bsA (wtP t ct rt nc nf nr (f 3)) 3)) h' (by decide) s' n' (by rw [e]; rfl) rfl
  · rintro _ h' ⟨rfl, s', n'⟩
    exact ok1 _ _ (rmA (rmP t ct rt nc nf nr (f 2) (f 3)) 6 1) h' (by decide) s' n' (by rw [e]; rfl) rfl
  · rintro _ h' ⟨rfl, s', n'⟩
    exact ok1 _ _ (msA (mcP t ct rt nc nf nr (f 2) (f 3)) nc).1 h' (by decide) s' n' (by rw [e]; rfl) rfl
  refine ⟨fun e => sta 0 (by decide) (by rw [e]; rfl) (by rw [of_toInt (i := 23) e (by decide)]; decide), fun e => sta 1 (by decide) (by rw [e]; rfl) (by rw [of_toInt (i := 24) e (by decide)]; decide), fun e => sta 2 (by decide) (by rw [e]; rfl) (by rw [of_toInt (i := 25) e (by decide)]; decide), fun e => ⟨_, r_same w1.1.1 q.s1 (c_overtaken w1.1.1 I.h6 I.hr), ?_⟩, fun e => ⟨_, r_thrift w1 q.s1 T, ?_⟩, fun e => ⟨_, q.s1.lift w1.1.1 (c_work w1.1 T.tk.2 T.c4 W.wk), ?_⟩, fun e => ⟨_, r_quiet w1.1 q.s1 T.tk W, ?_⟩, fun e => (PQ.mkFail rfl w1.1.1 (SG.refl _ _) q.s1 (cnt_no e)).2⟩
  · rintro _ h' ⟨rfl, s', n'⟩
    exact ok1 [2] _ (nI (ovS f nr')) h' (by decide) s' n' (by rw [e]; rfl) rfl
  · rintro _ h' ⟨rfl, s', n'⟩
    exact ok1 _ _ (nI (thA (wkP t ct rt nc nf nr (f 3)) 3)) h' (by decide) s' n' (by rw [e]; rfl) rfl
  · rintro _ h' ⟨rfl, rfl⟩
    exact ok1 [2] _ (FP.f2i (wrkA f nc)) _ (by decide) (SB.nw _ (by decide)) NR.nw (by rw [e]; rfl) rfl
  · rintro u h' ⟨hu, s', n'⟩
    exact ok1 _ _ (quV t ct nr' nf nc f) h' (by decide) s' n' (by rw [e]; rfl) (quV_eq hu)
end Pub4
