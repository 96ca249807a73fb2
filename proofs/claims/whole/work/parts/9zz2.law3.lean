/-! THE LAW: feed, group, image, restore -/
section Law3
variable {l : Launch} {x : CX} {h h' : PH} {nc nf nr tl k rc rs n0 xL : Nat} {t ct rt tp : Nat → Int32} {D : DT} {fp : Int32} {I : Option DT} {xs : Nat → Int32} {x4 : Int32} {Q : Option Value → PH → Prop} {X : String → PH → Prop}
theorem scrI_lo {b j : Nat} (z : scrI 177 b j) : 177 ≤ b ∧ b < 201 := by unfold scrI at z; omega
theorem scrF_lo {b j : Nat} (z : scrF 177 b j) : 177 ≤ b ∧ b < 201 := by unfold scrF at z; omega
theorem grP_lo {b j : Nat} (z : grP 177 b j) : 177 ≤ b ∧ b < 201 := by unfold grP at z; omega
theorem RMO.sI (q : RMO h t ct rt D tl tp fp I) (a : SG (scrI 177) h h') (e34 : hI h' 177 34 = 1) (d : DI 177 h' D) : RMO h' t ct rt D tl tp fp (some D) := by
  obtain ⟨⟨⟨w, w1, w2⟩, w3⟩, ⟨d1, d2, d3, d4⟩, tp1, f, ri, k⟩ := q
  have E : ∀ b j, ¬ scrI 177 b j → hI h' b j = hI h b j := a.2.2.2
  refine ⟨⟨⟨a.mw w, fun k => ?_, fun k => ?_⟩, fun k => ?_⟩, ⟨fun j hj => ?_, ⟨?_, fun i hi j hj => ?_⟩, ⟨?_, fun i hi => ⟨?_, ?_⟩⟩, fun i hi => ?_⟩, ⟨?_, fun i hi => ?_⟩, ?_, Or.inr ⟨D, rfl, e34, d⟩, by rw [a.hK]; exact k⟩
  · rw [E _ _ (by unfold scrI; omega)]; exact w1 k
  · rw [E _ _ (by unfold scrI; omega)]; exact w2 k
  · rw [E _ _ (by unfold scrI; omega)]; exact w3 k
  · rw [E _ _ (by unfold scrI; omega)]; exact d1 j hj
  · rw [E _ _ (by unfold scrI; omega)]; exact d2.1
  · rw [E _ _ (by unfold scrI; omega)]; exact d2.2 i hi j hj
  · rw [E _ _ (by unfold scrI; omega)]; exact d3.1
  · rw [E _ _ (by unfold scrI; omega)]; exact (d3.2 i hi).1
  · rw [E _ _ (by unfold scrI; omega)]; exact (d3.2 i hi).2
  · rw [E _ _ (by unfold scrI; omega)]; exact d4 i hi
  · rw [E _ _ (by unfold scrI; omega)]; exact tp1.1
  · rw [E _ _ (by unfold scrI; omega)]; exact tp1.2 i hi
  · rw [E _ _ (by unfold scrI; omega)]; exact f
theorem RMO.sF {tl' : Nat} {tp' : Nat → Int32} (q : RMO h t ct rt D tl tp fp I) (a : SG (scrF 177) h h') (tq : TP 177 h' tl' tp') : RMO h' t ct rt D tl' tp' fp I := by
  obtain ⟨⟨⟨w, w1, w2⟩, w3⟩, ⟨d1, d2, d3, d4⟩, tp1, f, ri, k⟩ := q
  have E : ∀ b j, ¬ scrF 177 b j → hI h' b j = hI h b j := a.2.2.2
  refine ⟨⟨⟨a.mw w, fun k => ?_, fun k => ?_⟩, fun k => ?_⟩, ⟨fun j hj => ?_, ⟨?_, fun i hi j hj => ?_⟩, ⟨?_, fun i hi => ⟨?_, ?_⟩⟩, fun i hi => ?_⟩, tq, ?_, ?_, by rw [a.hK]; exact k⟩
  · rw [E _ _ (by unfold scrF; omega)]; exact w1 k
  · rw [E _ _ (by unfold scrF; omega)]; exact w2 k
  · rw [E _ _ (by unfold scrF; omega)]; exact w3 k
  · rw [E _ _ (by unfold scrF; omega)]; exact d1 j hj
  · rw [E _ _ (by unfold scrF; omega)]; exact d2.1
  · rw [E _ _ (by unfold scrF; omega)]; exact d2.2 i hi j hj
  · rw [E _ _ (by unfold scrF; omega)]; exact d3.1
  · rw [E _ _ (by unfold scrF; omega)]; exact (d3.2 i hi).1
  · rw [E _ _ (by unfold scrF; omega)]; exact (d3.2 i hi).2
  · rw [E _ _ (by unfold scrF; omega)]; exact d4 i hi
  · rw [E _ _ (by unfold scrF; omega)]; exact f
  · unfold RI DI at ri ⊢
    rw [E 177 34 (by unfold scrF; omega), E 177 35 (by unfold scrF; omega), E 177 36 (by unfold scrF; omega)]
    have e : ∀ b, 195 ≤ b → b < 200 → ∀ j, hI h' b j = hI h b j := fun b h1 h2 j => E b j (by unfold scrF; omega)
    simp only [e (177 + 18) (by decide) (by decide), e (177 + 19) (by decide) (by decide), e (177 + 20) (by decide) (by decide), e (177 + 21) (by decide) (by decide), e (177 + 22) (by decide) (by decide)]
    exact ri
theorem law_image (sz : ScrOk x xL xs) (xo : XO l x) (q : IN h t ct rt nc nf nr D tl tp fp I) (b : BU h (k + 1) rc rs) (N : NX l x x4 k n0 Q X) : Gm l x mL_law 15 1556 [(0, .retAddr 999), (1, .ref 0), (2, .ref 177), (3, .ref 200), (4, .int x4)] [] h rc rs n0 Q X := by
  have b0 := b
  unfold BU at b0
  obtain ⟨mc, ms, m1, m2, C⟩ := k_image (l := l) xo.1 q.1
  refine vL_law_1556 sz ⟨q.k7, mc, ms, _, by omega, by omega, C, ?_⟩
  rintro h7 q7
  have M := q.2.1.ac q7.2.1
  refine ⟨M.k8, _, p_image M.1.1.1 M.2.1 q.W.2.1.2.2.2.2 q.W.2.1.1.2.2.2, ?_⟩
  rintro h13 ⟨s, e, d⟩
  exact N _ _ _ _ _ _ _ _ _ _ _ _ _ _ ⟨q7.1.sg s (fun _ _ => scrI_lo) M.2.2.2.2.2, M.sI s e d, q.2.2⟩ ((b.kq q7).dn.sg s)
theorem law_restore (sz : ScrOk x xL xs) (xo : XO l x) (q : IN h t ct rt nc nf nr D tl tp fp I) (b : BU h (k + 1) rc rs) (N : NX l x x4 k n0 Q X) : Gm l x mL_law 15 1567 [(0, .retAddr 999), (1, .ref 0), (2, .ref 177), (3, .ref 200), (4, .int x4)] [] h rc rs n0 Q X := by
  have b0 := b
  unfold BU at b0
  obtain ⟨mc, ms, m1, m2, C⟩ := k_restore (l := l) xo.1 q.1
  refine vL_law_1567 sz ⟨q.k7, mc, ms, _, by omega, by omega, C, ?_⟩
  rintro r7 h7 ⟨e7, q7⟩
  have M := q.2.1.ac q7.2.1
  rcases M.2.2.2.2.1 with ⟨e1, e2⟩ | ⟨J, e1, e2, d⟩
  · subst e1
    refine ⟨M.k8, _, p_restore0 M.1.1.1 e2, ?_⟩
    rintro r12 h11 ⟨e12, e11⟩
    have s : SG (scrA 177) h7 (sI h7 177 1 0) := sA1
    rw [e11]
    exact act_tail (a := (0, D)) q b e7 q7 ⟨s, e12, M.2.1.s1⟩ N
  · subst e1
    have WJ := q.W.2.2 J rfl
    refine ⟨M.k8, _, p_restore1 M.1.1.1 d e2 WJ.2.2.2.2 WJ.1.2.2.2, ?_⟩
    rintro r12 h11 ⟨e12, s, d2⟩
    exact act_tail (a := (1, J)) q b e7 q7 ⟨s, e12, d2⟩ N
theorem law_feed (sz : ScrOk x xL xs) (q : IN h t ct rt nc nf nr D tl tp fp I) (b : BU h (k + 1) rc rs) (v1 : vp_in (x4 + 1) xL) (v2 : vp_in (x4 + 2) xL) (v3 : vp_in (x4 + 3) xL) (v4 : vp_in (x4 + 4) xL) (v5 : vp_in (x4 + 5) xL) (N : NX l x x4 k n0 Q X) : Gm l x mL_law 15 164 [(0, .retAddr 999), (1, .ref 0), (2, .ref 177), (3, .ref 200), (4, .int x4)] [] h rc rs n0 Q X := by
  have t9 : tl ≤ 900 := by
    obtain ⟨⟨_, ow, fi, K⟩, _⟩ := q
    exact K.2.2.2.1.2.1
  refine vL_law_164 sz ⟨v1, v2, v3, v4, v5, q.k7, _, k_feed q.1, ?_⟩
  rintro r10 h9 c9
  have A9 : ∀ b, 177 ≤ b → b < 201 → Ac b h h9 := by
    rcases c9 with ⟨_, _, K⟩ | ⟨_, _, K⟩
    · exact K.2.1
    · exact K.2.1
  have M := q.2.1.ac A9
  refine ⟨v1, v2, v3, v4, v5, M.k8, _, p_feed M.1.1.1 M.2.2.1 t9, ?_⟩
  rintro r20 h19 ⟨s, c19⟩
  rcases c9 with ⟨z9, e9, K⟩ | ⟨z9, e9, K⟩
  · rcases c19 with ⟨_, e19, tq⟩ | ⟨z19, _⟩
    · refine ⟨fun _ => N _ _ _ _ _ _ _ _ _ _ _ _ _ _ ⟨K.1.sg s (fun _ _ => scrF_lo) M.2.2.2.2.2, M.sF s tq, fun i hi => ?_⟩ ((b.kq K).dn.sg s), fun z => absurd (e9.trans e19.symm) z⟩
      unfold fdT
      by_cases y : i < tl
      · rw [if_pos y]; exact q.2.2 i y
      · rw [if_neg y]; exact ⟨_, q8_lt _ _, rfl⟩
    · exact absurd z9 z19
  · rcases c19 with ⟨z19, _⟩ | ⟨_, e19, tq⟩
    · exact absurd z19 z9
    · exact ⟨fun _ => N _ _ _ _ _ _ _ _ _ _ _ _ _ _ ⟨K.1.sg s (fun _ _ => scrF_lo) M.2.2.2.2.2, M.sF s tq, q.2.2⟩ ((b.kq K).dn.sg s), fun z => absurd (e9.trans e19.symm) z⟩
theorem GC.ac {p : (Int32 × Nat) ⊕ PD} {r : Int32} (g : GC h t ct rt nc nf nr D tp I p r h') : (∀ b, 177 ≤ b → b < 201 → Ac b h h') ∧ pot 32 38 h' + 0 = pot 32 38 h ∧ pot 359 427 h' + 0 = pot 359 427 h := by
  unfold GC at g
  split at g
  · exact ⟨g.2.2.1, g.2.2.2.1, g.2.2.2.2.1⟩
  · have k := g.2 _ _ _ ⟨fun _ _ => rfl, fun _ _ => rfl, fun _ _ => rfl⟩
    exact ⟨k.2.1, k.2.2.1, k.2.2.2.1⟩
theorem law_group (sz : ScrOk x xL xs) (xo : XO l x) (nk : NcOk x) (q : IN h t ct rt nc nf nr D tl tp fp I) (b : BU h (k + 1) rc rs) (v1 : vp_in (x4 + 1) xL) (N : NX l x x4 k n0 Q X) : Gm l x mL_law 15 237 [(0, .retAddr 999), (1, .ref 0), (2, .ref 177), (3, .ref 200), (4, .int x4)] [] h rc rs n0 Q X := by
  have b0 := b
  unfold BU at b0
  have t9 : tl ≤ 900 := by
    obtain ⟨⟨_, ow, fi, K⟩, _⟩ := q
    exact K.2.2.2.1.2.1
  have k168 := q.2.1.2.2.2.2.2
  refine vL_law_237 sz ⟨v1, 1, 6, _, by omega, by omega, w_group nk q.k7 (k_group xo q.1 q.2.2) (fun v h' z => by obtain ⟨n, r, _, _, e, g⟩ := z; exact ⟨r, e, by rw [(g.ac.1 200 (by decide) (by decide)).1]; exact k168⟩) (fun E h' z => z.2.1), ?_⟩
  rintro r7 h6 w6
  rcases w6 with ⟨r, h1, ⟨n, r', hn, ev, er, g⟩, e7, e6⟩ | ⟨E, ⟨nz, _, K1⟩, e7⟩
  · cases er
    obtain ⟨A1, pc, psl⟩ := g.ac
    have M1 := q.2.1.ac A1
    have f8 : Fr1 200 h1 (sL h1 200 0 r.toInt64) := (Fr1.refl _ _).sL _ _
    have M6 : RMO h6 t ct rt D tl tp fp I := by rw [e6]; exact M1
    have b6 : BU h6 k (rc - 1) (rs - 6) := by
      rw [e6]
      unfold BU
      rw [pot_eq (h := h1) (h' := sL h1 200 0 r.toInt64) (fun _ _ => rfl), pot_eq (h := h1) (h' := sL h1 200 0 r.toInt64) (fun _ _ => rfl)]
      omega
    have l6 : hL h6 200 0 = r.toInt64 := by rw [e6]; exact gL _ _ _ _
    have K6 : ∀ {t ct rt nc nf nr D tl tp fp I}, KS h1 t ct rt nc nf nr D tl tp fp I → KS h6 t ct rt nc nf nr D tl tp fp I := fun K => by
      rw [e6]
      exact K.mod ⟨Nat.le_refl _, fun b _ hb => f8.ac fun z => hb (by omega)⟩ (by rw [f8.hK, M1.2.2.2.2.2])
    refine ⟨v1, M6.k8, _, p_group M6.1 M6.2.1 M6.2.2.1 t9 q.2.2 xo, ?_⟩
    rintro r13 h12 (⟨nz, _⟩ | ⟨n', t0, ct0, rt0, hn', ev', ht0, s, e1, tq, gm⟩)
    · exact absurd ⟨n, by omega, ev⟩ nz
    · obtain rfl : n = n' := (nI_eq (by omega) (by omega)).mp (ev.symm.trans ev')
      have k12 : hK h12 200 = (104, 1) := by rw [s.hK]; exact M6.2.2.2.2.2
      have w12 : (hK h12 177).1 = 8 := by rw [s.hK]; exact M6.k8
      refine ⟨w12, fun r h' => r = hI h12 177 1 ∧ h' = h12, Cm.of (by decide) (Nat.le_of_ble_eq_true rfl) (vX8_thrown_0 ⟨w12, _, rfl, rfl, rfl⟩), ?_⟩
      rintro r18 h17 ⟨e18, e17⟩
      rw [e17]
      have el : hL h12 200 (Int32.toNatClampNeg 0) = r.toInt64 := ((s.acP (c := 200) fun j z => by unfold grP at z; omega).2 0).2.1.trans l6
      have fin : r13 = r → (∃ t ct rt nc nf nr D tl tp fp I, IN h12 t ct rt nc nf nr D tl tp fp I) → ((r18 = r7 → ((¬ r7 = 0 → Gm l x mL_law 15 1580 [(0, .retAddr 999), (1, .ref 0), (2, .ref 177), (3, .ref 200), (4, .int x4)] [] h12 (rc - 1) (rs - 6) n0 Q X) ∧ (r7 = 0 → ((hK h12 200).1 = 104) ∧ (vp_in 0 (hK h12 200).2) ∧ (((lg_cmp (hL h12 200 (Int32.toNatClampNeg 0)) r13.toInt64) = 0 → Gm l x mL_law 15 1580 [(0, .retAddr 999), (1, .ref 0), (2, .ref 177), (3, .ref 200), (4, .int x4)] [] h12 (rc - 1) (rs - 6) n0 Q X) ∧ (¬ (lg_cmp (hL h12 200 (Int32.toNatClampNeg 0)) r13.toInt64) = 0 → ((0 : Int32) = 0 ∨ (0 : Int32) = 1) ∧ Q (some (.int 0)) h12))))) ∧ (¬ r18 = r7 → ((0 : Int32) = 0 ∨ (0 : Int32) = 1) ∧ Q (some (.int 0)) h12)) := fun er ⟨_, _, _, _, _, _, _, _, _, _, _, q12⟩ =>
        ⟨fun _ => ⟨fun z => absurd e7 z, fun _ => ⟨by rw [k12], by rw [k12]; exact vp_in_nI (n := 0) (by decide) (by decide), fun _ => N _ _ _ _ _ _ _ _ _ _ _ _ _ _ q12 (b6.sg s), fun z => absurd (by rw [el, er]; exact lg_self _) z⟩⟩, fun z => absurd (by rw [e18, e1, e7]) z⟩
      have E : ∀ b j, ¬ grP 177 b j → hI h12 b j = hI h6 b j := s.2.2.2
      have ri6 := M6.2.2.2.2.1
      rcases prs_cg (tp := tp) (n := n) (n + 1) (tZ, z0, z0, 0, 8, 0) (t0, ct0, rt0, 0, 8, 0) 0 (tokB tp n 0) ⟨fun k hk => (ht0 k hk).symm, fun k hk => absurd hk (Nat.not_lt_zero _), fun k hk => absurd hk (Nat.not_lt_zero _), rfl⟩ with ⟨p, c1, c2⟩ | ⟨d, d', c1, c2, c3⟩
      · rw [show prG tp n = .inl p from c1] at g
        rw [c2] at gm
        obtain ⟨g1, g2⟩ := g
        obtain ⟨m1, m2, m3, m4, m5⟩ := gm
        refine fin (m1.trans g1.symm) ⟨t, ct, rt, nc, nf, nr, dRef D 0, 0, tp, nI p.2, I, (K6 g2.1).sg s (fun _ _ => grP_lo) M6.2.2.2.2.2, ⟨m3, m4, tq, m2, ?_, k12⟩, fun i hi => absurd hi (Nat.not_lt_zero _)⟩
        unfold RI DI at ri6 ⊢
        rw [m5, E 177 35 (by unfold grP; omega), E 177 36 (by unfold grP; omega)]
        have e : ∀ b, 195 ≤ b → b < 200 → ∀ j, hI h12 b j = hI h6 b j := fun b h1 h2 j => E b j (by unfold grP; omega)
        simp only [e (177 + 18) (by decide) (by decide), e (177 + 19) (by decide) (by decide), e (177 + 20) (by decide) (by decide), e (177 + 21) (by decide) (by decide), e (177 + 22) (by decide) (by decide)]
        exact ri6
      · rw [show prG tp n = .inr d from c1] at g
        rw [c2] at gm
        obtain ⟨g1, g2⟩ := g
        obtain ⟨m1, m2, m3, m4, t', ct', rt', m5, m6, m7, m8, m9⟩ := gm
        obtain ⟨a1, a2, a3, a4⟩ := c3
        have T4 : TD d'.1 d'.2.1 d'.2.2.1 d'.2.2.2.1 d'.2.2.2.2.1 d'.2.2.2.2.2 := m4
        have c4 := T4.c4
        have r20 := T4.r20
        have en : d.2.2.2.1 = d'.2.2.2.1 := by rw [a4]
        have ef : d.2.2.2.2.1 = d'.2.2.2.2.1 := by rw [a4]
        have er : d.2.2.2.2.2 = d'.2.2.2.2.2 := by rw [a4]
        have ag : AG d t' ct' rt' := ⟨fun k hk => (m5 k hk).trans (a1 k hk).symm, fun k hk => (m6 k (by omega)).trans (a2 k hk).symm, fun k hk => (m7 k (by omega)).trans (a3 k hk).symm⟩
        have K12 := K6 (g2 t' ct' rt' ag).1
        rw [en, ef, er] at K12
        exact fin (m1.trans g1.symm) ⟨t', ct', rt', d'.2.2.2.1, d'.2.2.2.2.1, d'.2.2.2.2.2, _, 0, tp, -1, none, K12.sg s (fun _ _ => grP_lo) M6.2.2.2.2.2, ⟨m8, m9, tq, m2, Or.inl ⟨rfl, m3⟩, k12⟩, fun i hi => absurd hi (Nat.not_lt_zero _)⟩
  · have M6 := q.2.1.ac K1.2.1
    have b6 : BU h6 k (rc - 1) (rs - 6) := by
      have e4 := K1.2.2.1
      have e5 := K1.2.2.2.1
      unfold BU
      omega
    refine ⟨v1, M6.k8, _, p_group M6.1 M6.2.1 M6.2.2.1 t9 q.2.2 xo, ?_⟩
    rintro r13 h12 (⟨_, e13, e12⟩ | ⟨n', t0, ct0, rt0, hn', ev', _⟩)
    · refine wr_tail (A := .inr 1) (t := t) (ct := ct) (rt := rt) (nc := nc) (nf := nf) (nr := nr) (D := D) (tl := tl) (tp := tp) (fp := fp) (I := I) ⟨K1.1, M6, q.2.2⟩ (Or.inr ⟨1, rfl, by rw [e7]; rfl, by rw [e7]; exact (by decide : ¬ (1 : Int32) = 0)⟩) ?_ b6 N
      rw [e12]
      exact ⟨s10.trans s1v, M6.2.1.1.s1.s1, gI _ _ _ _⟩
    · exact absurd ⟨n', by omega, ev'⟩ nz
end Law3
