/-! THE LAW: what holds between two calls (LiftBank 0, the reference 177, the law's row 200) -/
section Law1
variable {l : Launch} {x : CX} {h h' h6 h12 : PH} {nc nf nr tl k rc rs n0 xL i mc ms : Nat} {t ct rt tp : Nat → Int32} {D D' : DT} {fp : Int32} {I : Option DT} {xs : Nat → Int32} {x4 r7 r13 : Int32} {Q : Option Value → PH → Prop} {X : String → PH → Prop} {A : Int32 ⊕ Nat}
def RI (h : PH) (I : Option DT) : Prop := (I = none ∧ hI h 177 34 = 0) ∨ ∃ J, I = some J ∧ hI h 177 34 = 1 ∧ DI 177 h J
def RMO (h : PH) (t ct rt : Nat → Int32) (D : DT) (tl : Nat) (tp : Nat → Int32) (fp : Int32) (I : Option DT) : Prop := RX 177 t ct rt h ∧ DK 177 h D ∧ TP 177 h tl tp ∧ hI h 177 20 = fp ∧ RI h I ∧ hK h 200 = (104, 1)
def IN (h : PH) (t ct rt : Nat → Int32) (nc nf nr : Nat) (D : DT) (tl : Nat) (tp : Nat → Int32) (fp : Int32) (I : Option DT) : Prop := KS h t ct rt nc nf nr D tl tp fp I ∧ RMO h t ct rt D tl tp fp I ∧ BY tl tp
def BU (h : PH) (k rc rs : Nat) : Prop := pot 32 38 h + k ≤ rc ∧ pot 359 427 h + 6 * k ≤ rs
def NX (l : Launch) (x : CX) (x4 : Int32) (k n0 : Nat) (Q : Option Value → PH → Prop) (X : String → PH → Prop) : Prop := ∀ h' rc' rs' t ct rt nc nf nr D tl tp fp I, IN h' t ct rt nc nf nr D tl tp fp I → BU h' k rc' rs' → Gm l x mL_law 15 1580 [(0, .retAddr 999), (1, .ref 0), (2, .ref 177), (3, .ref 200), (4, .int x4)] [] h' rc' rs' n0 Q X
theorem mt_lt : ∀ q ∈ mtab, q.2.1 < 23 := by decide
theorem MW.acs {mo : Nat} (w : MW mo h) (A : ∀ b, mo ≤ b → b < mo + 24 → Ac b h h') : MW mo h' := by
  obtain ⟨q1, q2, q3, q4, q5⟩ := w
  have A0 := A mo (Nat.le_refl _) (by omega)
  have A1 := A (mo + 1) (by omega) (by omega)
  refine ⟨by rw [A0.1]; exact q1, fun q hq => ?_, by rw [A0.hR]; exact q3, by rw [A1.1]; exact q4, fun j hj => by rw [A1.hR]; exact q5 j hj⟩
  have := mt_lt q hq
  rw [A0.hR, (A (mo + q.2.1) (by omega) (by omega)).1]
  exact q2 q hq
theorem RI.ac (q : RI h I) (A : ∀ b, 177 ≤ b → b < 201 → ∀ j, hI h' b j = hI h b j) : RI h' I := by
  unfold RI DI at q ⊢
  simp only [A 177 (by decide) (by decide), A (177 + 18) (by decide) (by decide), A (177 + 19) (by decide) (by decide), A (177 + 20) (by decide) (by decide), A (177 + 21) (by decide) (by decide), A (177 + 22) (by decide) (by decide)]
  exact q
theorem RMO.ac (q : RMO h t ct rt D tl tp fp I) (A : ∀ b, 177 ≤ b → b < 201 → Ac b h h') : RMO h' t ct rt D tl tp fp I := by
  obtain ⟨⟨⟨w, w1, w2⟩, w3⟩, ⟨d1, d2, d3, d4⟩, tp1, f, ri, k⟩ := q
  have E : ∀ b, 177 ≤ b → b < 201 → ∀ j, hI h' b j = hI h b j := fun b h1 h2 j => (A b h1 h2).hI j
  refine ⟨⟨⟨w.acs fun b h1 h2 => A b h1 (by omega), fun k => ?_, fun k => ?_⟩, fun k => ?_⟩, ⟨fun j hj => ?_, ⟨?_, fun i hi j hj => ?_⟩, ⟨?_, fun i hi => ⟨?_, ?_⟩⟩, fun i hi => ?_⟩, ⟨?_, fun i hi => ?_⟩, ?_, ri.ac E, ?_⟩
  · rw [E _ (by decide) (by decide)]; exact w1 k
  · rw [E _ (by decide) (by decide)]; exact w2 k
  · rw [E _ (by decide) (by decide)]; exact w3 k
  · rw [E _ (by decide) (by decide)]; exact d1 j hj
  · rw [E _ (by decide) (by decide)]; exact d2.1
  · rw [E _ (by decide) (by decide)]; exact d2.2 i hi j hj
  · rw [E _ (by decide) (by decide)]; exact d3.1
  · rw [E _ (by decide) (by decide)]; exact (d3.2 i hi).1
  · rw [E _ (by decide) (by decide)]; exact (d3.2 i hi).2
  · rw [E _ (by decide) (by decide)]; exact d4 i hi
  · rw [E _ (by decide) (by decide)]; exact tp1.1
  · rw [E _ (by decide) (by decide)]; exact tp1.2 i hi
  · rw [E _ (by decide) (by decide)]; exact f
  · rw [(A 200 (by decide) (by decide)).1]; exact k
theorem KS.sg {P : Nat → Nat → Prop} (K : KS h t ct rt nc nf nr D tl tp fp I) (a : SG P h h') (hP : ∀ b j, P b j → 177 ≤ b ∧ b < 201) (k8 : hK h 200 = (104, 1)) : KS h' t ct rt nc nf nr D tl tp fp I :=
  K.mod ⟨Nat.le_of_eq a.1.symm, fun b _ hb => a.acP fun j z => hb (hP b j z)⟩ (by rw [a.hK, k8])
theorem scrA_lo {b j : Nat} (z : scrA 177 b j) : 177 ≤ b ∧ b < 201 := by unfold scrA at z; omega
theorem RMO.sA (q : RMO h t ct rt D tl tp fp I) (a : SG (scrA 177) h h') (d : DK 177 h' D') : RMO h' t ct rt D' tl tp fp I := by
  obtain ⟨w, _, tp1, f, ri, k⟩ := q
  have E : ∀ b j, ¬ scrA 177 b j → hI h' b j = hI h b j := a.2.2.2
  refine ⟨w.sA a, d, ⟨?_, fun i hi => ?_⟩, ?_, ?_, by rw [a.hK]; exact k⟩
  · rw [E _ _ (by unfold scrA; omega)]; exact tp1.1
  · rw [E _ _ (by unfold scrA; omega)]; exact tp1.2 i hi
  · rw [E _ _ (by unfold scrA; omega)]; exact f
  · unfold RI DI at ri ⊢
    rw [E 177 34 (by unfold scrA; omega), E 177 35 (by unfold scrA; omega), E 177 36 (by unfold scrA; omega)]
    have e : ∀ b, 195 ≤ b → b < 200 → ∀ j, hI h' b j = hI h b j := fun b h1 h2 j => E b j (by unfold scrA; omega)
    simp only [e (177 + 18) (by decide) (by decide), e (177 + 19) (by decide) (by decide), e (177 + 20) (by decide) (by decide), e (177 + 21) (by decide) (by decide), e (177 + 22) (by decide) (by decide)]
    exact ri
theorem IN.sA (q : IN h t ct rt nc nf nr D tl tp fp I) (K' : KS h t ct rt nc nf nr D' tl tp fp I) (a : SG (scrA 177) h h') (d : DK 177 h' D') : IN h' t ct rt nc nf nr D' tl tp fp I :=
  ⟨K'.sg a (fun _ _ => scrA_lo) q.2.1.2.2.2.2.2, q.2.1.sA a d, q.2.2⟩
theorem BU.sg {P : Nat → Nat → Prop} (b : BU h k rc rs) (a : SG P h h') : BU h' k rc rs := by
  unfold BU at b ⊢
  rw [pot_eq a.hR, pot_eq a.hR]
  exact b
theorem BU.kq {P : PH → Prop} (b : BU h (k + 1) rc rs) (q : KQ h mc ms P h') : BU h' (k + 1) (rc - mc) (rs - ms) := by
  have e1 := q.2.2.1
  have e2 := q.2.2.2.1
  unfold BU at b ⊢
  omega
theorem BU.dn (b : BU h (k + 1) rc rs) : BU h k rc rs := by
  unfold BU at b ⊢
  omega
theorem IN.k7 (q : IN h t ct rt nc nf nr D tl tp fp I) : (hK h 0).1 = 7 := by
  obtain ⟨⟨_, ow, fi, K⟩, _⟩ := q
  exact K.k0
theorem RMO.k8 (q : RMO h t ct rt D tl tp fp I) : (hK h 177).1 = 8 := q.1.1.1.1
theorem IN.W (q : IN h t ct rt nc nf nr D tl tp fp I) : SO t ct rt nc nf nr D I := q.1.1
/-- behind a wrapper -/
theorem wr_mid {ek : String → Int32} {ex : Nat → String} (q : IN h t ct rt nc nf nr D tl tp fp I) (w : WQ 200 ek (fun v h' => ∃ r, v = some (.int r) ∧ A = .inl r ∧ KQ h 0 0 (KZ t ct rt nc nf nr D tl tp fp I) h') (fun c h' => ∃ k, A = .inr k ∧ c = ex k ∧ KQ h 0 0 (KZ t ct rt nc nf nr D tl tp fp I) h') r7 h6) (tk : ∀ k, A = .inr k → ek (ex k) = nI k ∧ ¬ nI k = 0) (b : BU h (k + 1) rc rs) : IN h6 t ct rt nc nf nr D tl tp fp I ∧ BU h6 k (rc - 1) (rs - 6) ∧ ((∃ r, A = .inl r ∧ r7 = 0 ∧ hL h6 200 0 = r.toInt64) ∨ ∃ k, A = .inr k ∧ r7 = nI k ∧ ¬ r7 = 0) := by
  rcases w with ⟨r, h1, ⟨r', e1, e2, K1⟩, e3, e4⟩ | ⟨E, ⟨k', e1, e2, K1⟩, e3⟩
  · cases e1
    have M1 := q.2.1.ac K1.2.1
    have f8 : Fr1 200 h1 (sL h1 200 0 r.toInt64) := (Fr1.refl _ _).sL _ _
    have p0 := b
    unfold BU at p0
    have e1 := K1.2.2.1
    have e5 := K1.2.2.2.1
    subst e4
    refine ⟨⟨K1.1.mod ⟨Nat.le_refl _, fun b _ hb => f8.ac fun z => hb (by omega)⟩ (by rw [f8.hK, M1.2.2.2.2.2]), M1, q.2.2⟩, ?_, Or.inl ⟨r, e2, e3, gL _ _ _ _⟩⟩
    unfold BU
    rw [pot_eq (h := h1) (h' := sL h1 200 0 r.toInt64) (fun _ _ => rfl), pot_eq (h := h1) (h' := sL h1 200 0 r.toInt64) (fun _ _ => rfl)]
    omega
  · have M1 := q.2.1.ac K1.2.1
    have p0 := b
    unfold BU at p0
    have e4 := K1.2.2.1
    have e5 := K1.2.2.2.1
    have t1 := tk k' e1
    refine ⟨⟨K1.1, M1, q.2.2⟩, ?_, Or.inr ⟨k', e1, by rw [e3, e2]; exact t1.1, by rw [e3, e2, t1.1]; exact t1.2⟩⟩
    unfold BU
    omega
theorem lg_self (v : Int64) : lg_cmp v v = 0 := by
  unfold lg_cmp
  simp
/-- the reference has answered too -/
theorem wr_tail (q : IN h6 t ct rt nc nf nr D tl tp fp I) (c : (∃ r, A = .inl r ∧ r7 = 0 ∧ hL h6 200 0 = r.toInt64) ∨ ∃ k, A = .inr k ∧ r7 = nI k ∧ ¬ r7 = 0) (p : PQ 177 h6 D.1 A r13 h12) (b : BU h6 k rc rs) (N : NX l x x4 k n0 Q X) : ((hK h12 177).1 = 8) ∧ ∃ (q14 : Int32 → PH → Prop), CI l x mX8_thrown 0 0 0 [.ref 177] h12 q14 ∧ ∀ (r18 : Int32) (h17 : PH), q14 r18 h17 → ((r18 = r7 → ((¬ r7 = 0 → Gm l x mL_law 15 1580 [(0, .retAddr 999), (1, .ref 0), (2, .ref 177), (3, .ref 200), (4, .int x4)] [] h17 rc rs n0 Q X) ∧ (r7 = 0 → ((hK h17 200).1 = 104) ∧ (vp_in 0 (hK h17 200).2) ∧ (((lg_cmp (hL h17 200 (Int32.toNatClampNeg 0)) r13.toInt64) = 0 → Gm l x mL_law 15 1580 [(0, .retAddr 999), (1, .ref 0), (2, .ref 177), (3, .ref 200), (4, .int x4)] [] h17 rc rs n0 Q X) ∧ (¬ (lg_cmp (hL h17 200 (Int32.toNatClampNeg 0)) r13.toInt64) = 0 → ((0 : Int32) = 0 ∨ (0 : Int32) = 1) ∧ Q (some (.int 0)) h17))))) ∧ (¬ r18 = r7 → ((0 : Int32) = 0 ∨ (0 : Int32) = 1) ∧ Q (some (.int 0)) h17)) := by
  obtain ⟨s, n, m⟩ := p
  have sA : SG (scrA 177) h6 h12 := s.up' fun _ _ => scr_A
  have q12 : IN h12 t ct rt nc nf nr D tl tp fp I := q.sA q.1 sA (q.2.1.2.1.sg s n)
  have b12 := b.sg sA
  have k12 := q12.2.1.2.2.2.2.2
  refine ⟨q12.2.1.k8, fun r h' => r = hI h12 177 1 ∧ h' = h12, Cm.of (by decide) (Nat.le_of_ble_eq_true rfl) (vX8_thrown_0 ⟨q12.2.1.k8, _, rfl, rfl, rfl⟩), ?_⟩
  rintro r18 h17 ⟨e18, e17⟩
  rw [e17]
  have go := N h12 rc rs t ct rt nc nf nr D tl tp fp I q12 b12
  rcases c with ⟨r, e1, e2, e3⟩ | ⟨k', e1, e2, e3⟩
  · subst e1
    have m1 : r13 = r ∧ hI h12 177 1 = 0 := m
    refine ⟨fun _ => ⟨fun z => absurd e2 z, fun _ => ⟨by rw [k12], by rw [k12]; exact vp_in_nI (n := 0) (by decide) (by decide), fun _ => go, fun z => absurd ?_ z⟩⟩, fun z => absurd (by rw [e18, m1.2, e2]) z⟩
    have el : hL h12 200 (Int32.toNatClampNeg 0) = r.toInt64 := ((sA.acP (c := 200) fun j z => by unfold scrA at z; omega).2 0).2.1.trans e3
    rw [el, m1.1]
    exact lg_self _
  · subst e1
    have m1 : hI h12 177 1 = nI k' := m
    exact ⟨fun _ => ⟨fun _ => go, fun z => absurd z e3⟩, fun z => absurd (by rw [e18, m1, e2]) z⟩
/-- an act: both have answered -/
theorem act_tail {a : Int32 × DT} {r9 r16 : Int32} {h8 h15 : PH} (q : IN h t ct rt nc nf nr D tl tp fp I) (b : BU h (k + 1) rc rs) (e9 : r9 = a.1) (q8 : KQ h mc ms (KZ t ct rt nc nf nr a.2 tl tp fp I) h8) (p : AQ 177 h8 a r16 h15) (N : NX l x x4 k n0 Q X) : (r9 = r16 → Gm l x mL_law 15 1580 [(0, .retAddr 999), (1, .ref 0), (2, .ref 177), (3, .ref 200), (4, .int x4)] [] h15 (rc - mc) (rs - ms) n0 Q X) ∧ (¬ r9 = r16 → ((0 : Int32) = 0 ∨ (0 : Int32) = 1) ∧ Q (some (.int 0)) h15) := by
  obtain ⟨s, e, d⟩ := p
  refine ⟨fun _ => N _ _ _ _ _ _ _ _ _ _ _ _ _ _ ⟨q8.1.sg s (fun _ _ => scrA_lo) (q.2.1.ac q8.2.1).2.2.2.2.2, (q.2.1.ac q8.2.1).sA s d, q.2.2⟩ ((b.kq q8).dn.sg s), fun z => absurd (e9.trans e.symm) z⟩
end Law1
