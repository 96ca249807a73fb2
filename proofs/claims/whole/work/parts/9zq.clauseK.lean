/-! THE CLASS READS A TEXT: a clause, all clauses -/
section ClauseK
variable {l : Launch} {x : CX} {g h h' : PH} {tp : Nat → Int32} {n b cl : Nat} {td : Int32} {s : ST} {d : PD} {q : Int32 × Nat} {r : PR} {rc rs n0 : Nat} {Q : Option Value → PH → Prop} {X : String → PH → Prop}
theorem td_all (p1 p2 p3 p4 : Prop) [Decidable p1] [Decidable p2] [Decidable p3] [Decidable p4] : (nI ((if p1 then 0 else 1) + (if p2 then 0 else 2) + (if p3 then 0 else 4) + (if p4 then 0 else 8)) &&& 1 = 0 ↔ p1) ∧ (nI ((if p1 then 0 else 1) + (if p2 then 0 else 2) + (if p3 then 0 else 4) + (if p4 then 0 else 8)) &&& 2 = 0 ↔ p2) ∧ (nI ((if p1 then 0 else 1) + (if p2 then 0 else 2) + (if p3 then 0 else 4) + (if p4 then 0 else 8)) &&& 4 = 0 ↔ p3) ∧ (nI ((if p1 then 0 else 1) + (if p2 then 0 else 2) + (if p3 then 0 else 4) + (if p4 then 0 else 8)) &&& 8 = 0 ↔ p4) := by
  by_cases h1 : p1 <;> by_cases h2 : p2 <;> by_cases h3 : p3 <;> by_cases h4 : p4 <;> simp only [h1, h2, h3, h4, ↓reduceIte] <;> decide
theorem td_or (p1 p2 p3 p4 : Prop) [Decidable p1] [Decidable p2] [Decidable p3] [Decidable p4] : (p1 → nI ((if p1 then 0 else 1) + (if p2 then 0 else 2) + (if p3 then 0 else 4) + (if p4 then 0 else 8)) ||| 1 = nI (1 + (if p2 then 0 else 2) + (if p3 then 0 else 4) + (if p4 then 0 else 8))) ∧ (p2 → nI ((if p1 then 0 else 1) + (if p2 then 0 else 2) + (if p3 then 0 else 4) + (if p4 then 0 else 8)) ||| 2 = nI ((if p1 then 0 else 1) + 2 + (if p3 then 0 else 4) + (if p4 then 0 else 8))) ∧ (p3 → nI ((if p1 then 0 else 1) + (if p2 then 0 else 2) + (if p3 then 0 else 4) + (if p4 then 0 else 8)) ||| 4 = nI ((if p1 then 0 else 1) + (if p2 then 0 else 2) + 4 + (if p4 then 0 else 8))) ∧ (p4 → nI ((if p1 then 0 else 1) + (if p2 then 0 else 2) + (if p3 then 0 else 4) + (if p4 then 0 else 8)) ||| 8 = nI ((if p1 then 0 else 1) + (if p2 then 0 else 2) + (if p3 then 0 else 4) + 8)) := by
  by_cases h1 : p1 <;> by_cases h2 : p2 <;> by_cases h3 : p3 <;> by_cases h4 : p4 <;> simp only [h1, h2, h3, h4, ↓reduceIte] <;> decide
theorem tdO_0 (h3 : d.1 3 = -1) (h4 : d.1 4 = -1) (h5 : d.1 5 = -1) (h6 : d.1 6 = -1) : tdO d = 0 := by
  unfold tdO
  rw [if_pos h3, if_pos h4, if_pos h5, if_pos h6]
  rfl
def b7 (k : Nat) : Int32 := if k = 3 then 1 else if k = 4 then 2 else if k = 5 then 4 else 8
theorem td_and {k : Nat} (hk : 2 < k ∧ k < 7) : tdO d &&& b7 k = 0 ↔ d.1 k = -1 := by
  have T := td_all (d.1 3 = -1) (d.1 4 = -1) (d.1 5 = -1) (d.1 6 = -1)
  have : k = 3 ∨ k = 4 ∨ k = 5 ∨ k = 6 := by omega
  rcases this with rfl | rfl | rfl | rfl
  · exact T.1
  · exact T.2.1
  · exact T.2.2.1
  · exact T.2.2.2
theorem td_set {k v : Nat} (hk : 2 < k ∧ k < 7) (e : d.1 k = -1) (hv : v < 100) : tdO d ||| b7 k = tdO (pdS d k v) := by
  have T := td_or (d.1 3 = -1) (d.1 4 = -1) (d.1 5 = -1) (d.1 6 = -1)
  have nv := nI_nm hv
  have u : ∀ j, j ≠ k → (pdS d k v).1 j = d.1 j := fun j hj => up_ne hj
  have w : (pdS d k v).1 k = nI v := up_eq
  have : k = 3 ∨ k = 4 ∨ k = 5 ∨ k = 6 := by omega
  rcases this with rfl | rfl | rfl | rfl
  · refine (T.1 e).trans ?_
    unfold tdO
    rw [w, u 4 (by decide), u 5 (by decide), u 6 (by decide), if_neg nv]
  · refine (T.2.1 e).trans ?_
    unfold tdO
    rw [w, u 3 (by decide), u 5 (by decide), u 6 (by decide), if_neg nv]
  · refine (T.2.2.1 e).trans ?_
    unfold tdO
    rw [w, u 3 (by decide), u 4 (by decide), u 6 (by decide), if_neg nv]
  · refine (T.2.2.2 e).trans ?_
    unfold tdO
    rw [w, u 3 (by decide), u 4 (by decide), u 5 (by decide), if_neg nv]
theorem SS.putB {k : Nat} {v : Int32} (S : SS tp n g td h (.inl q)) (hk : k = 0 ∨ 2 < k) : SS tp n g td (sI h 3 k v) (.inl q) := by
  have fr : Fr1 3 h (sI h 3 k v) := (Fr1.refl _ _).sI _ _
  obtain ⟨_, _, _, _, s4, s5⟩ := id S
  exact S.bankB (fr.frb (by decide) (by decide)) (by rw [gIk _ _ _ (by omega)]; exact s4) (by rw [gIk _ _ _ (by omega)]; exact s5)
theorem SS.putG {k v : Nat} (S : SS tp n g td h (.inr (d, cl, b))) (hk : k = 0 ∨ 2 < k ∧ k < 7) (hv : v < 100) (D : PDok (pdS d k v)) : SS tp n g td (sI h 3 k (nI v)) (.inr (pdS d k v, cl, b)) := by
  have fr : Fr1 3 h (sI h 3 k (nI v)) := (Fr1.refl _ _).sI _ _
  obtain ⟨_, _, _, _, _, B, T⟩ := S.gd
  exact S.bankG (fr.frb (by decide) (by decide)) (BT.set B T.c4 T.r20 hk hv) D
theorem hi7_lt (k : Nat) : hi7 k < 100 := by unfold hi7; split; decide; split; decide; split; decide; split <;> decide
theorem lo7_lt (k : Nat) : lo7 k < 1000 := by unfold lo7; split; decide; split <;> decide
theorem chS {k : Nat} (hw : tkK tp n b = 1) (hk : 2 < k ∧ k < 7) : (∃ q, nuS tp n (lo7 k) (hi7 k) (seS k d cl b) = .inl q ∧ clSet tp n d cl k b = .inl q) ∨ ∃ b1, nuS tp n (lo7 k) (hi7 k) (seS k d cl b) = .inr (d, cl, b1) ∧ NB tp n (lo7 k) (hi7 k) b1 ∧ d.1 k = -1 ∧ clSet tp n d cl k b = sgB tp n (pdS d k (tkV tp n b1)) (tokB tp n (aE tp n b1)) := by
  unfold seS clSet
  by_cases z : d.1 k = -1
  · rw [ite'_t z, ite'_f (show ¬ ((k = 0 ∧ 0 < cl) ∨ (2 < k ∧ ¬ d.1 k = -1)) from fun y => y.elim (fun y => by omega) fun y => y.2 z), ← aE_1 hw]
    rcases nuS_step (d := d) (cl := cl) (lo := lo7 k) (hi := hi7 k) (b := b) (k := fun v _ e => sgB tp n (pdS d k v) (tokB tp n e)) rfl with ⟨q, e1, e2⟩ | ⟨b1, e1, e2, e3, e4⟩
    · exact Or.inl ⟨q, e1, e2⟩
    · exact Or.inr ⟨b1, e1, e2, z, by rw [e4, e3]⟩
  · rw [ite'_f z, ite'_t (show ((k = 0 ∧ 0 < cl) ∨ (2 < k ∧ ¬ d.1 k = -1)) from Or.inr ⟨hk.1, z⟩)]
    exact Or.inl ⟨_, rfl, rfl⟩
theorem k_setting {k : Nat} (S : SS tp n g (tdO d) h (.inr (d, cl, b))) (hw : tkK tp n b = 1) (hk : 2 < k ∧ k < 7) : (hK h 1).1 = 4 ∧ ∃ b55, hR h 1 2 = some b55 ∧ ∃ (q57 : Int32 → PH → Prop), CI l x mX4_readSetting 3 0 0 [.ref 1, .int (b7 k), .int (nI (lo7 k)), .int (nI (hi7 k))] h q57 ∧ ∀ (r60 : Int32) (h59 : PH), q57 r60 h59 → (hK h59 b55).1 = 1 ∧ PK tp n g cl (clSet tp n d cl k b) (sI h59 b55 k r60) := by
  have D : PDok d := S.gd.2.2.2.2.2.2
  have h7 := hi7_lt k
  refine ⟨S.k, 3, S.bk, _, k_readSetting (k := k) S (td_and hk) (lo7_lt k) (by omega), ?_⟩
  rintro r60 h59 ⟨S5, V5⟩
  refine ⟨S5.b1, ?_⟩
  rcases chS (d := d) (cl := cl) hw hk with ⟨q, e1, e2⟩ | ⟨b1, e1, e2, e3, e4⟩
  · rw [e1] at S5
    exact Or.inl ⟨q, e2, SS.putB (k := k) (v := r60) S5 (Or.inr hk.1)⟩
  · rw [e1] at S5 V5
    have hv : tkV tp n b1 < 100 := by have := e2.2.2.2; omega
    rw [V5 _ _ _ rfl]
    refine Or.inr ⟨_, _, e4, ?_⟩
    rw [← td_set hk e3 hv]
    exact SS.putG (b := tokB tp n (aE tp n b1)) S5 (Or.inr hk) hv (pdS_ok D (Or.inr hk) (fun y => by omega) e2.2.2.1 e2.2.2.2)
theorem k_readFloors (S : SS tp n g (tdO d) h (.inr (d, cl, b))) (hw : tkK tp n b = 1) (h0 : cl = 0 → d.2.2.2.1 = 0 ∧ d.2.2.2.2.2 = 0) (hcl : cl < 1000) : CV l x mX4_readFloors 3 0 0 [.ref 1] h (fun h' => PK tp n g cl (clSet tp n d cl 0 b) h') := by
  have D : PDok d := S.gd.2.2.2.2.2.2
  have e7 : hI h 1 8 = nI cl := S.gd.2.2.2.1
  refine Cm.of (by decide) (Nat.le_of_ble_eq_true rfl) (vX4_readFloors_0 ⟨S.k, ?_⟩)
  rw [e7]
  refine ⟨fun z => ⟨3, S.bk, _, k_readNumber (lo := 2) (hi := 12) S (by decide) (by decide), ?_⟩, fun z => ⟨_, k_fail S (k := 4) (by decide), fun h16 S16 => ⟨S16.k, 3, S16.bk, _, k_readNumber (lo := 2) (hi := 12) S16 (by decide) (by decide), ?_⟩⟩⟩
  · have c0 : cl = 0 := Nat.eq_zero_of_not_pos fun y => nI_nle y (by omega) z
    rintro r8 h7 ⟨S7, V7⟩
    have ec : clSet tp n d cl 0 b = nuC tp n 2 12 (aE tp n b) fun v _ e => sgB tp n (pdS d 0 v) (tokB tp n e) := by
      unfold clSet
      rw [ite'_f (show ¬ ((0 = 0 ∧ 0 < cl) ∨ (2 < 0 ∧ ¬ d.1 0 = -1)) by omega), aE_1 hw]
      rfl
    rcases nuS_step (d := d) (cl := cl) ec with ⟨q, e1, e2⟩ | ⟨b1, e1, e2, e3, e4⟩
    · rw [e1] at S7
      exact ⟨S7.b1, S7.k, _, k_nextS (SS.putB (k := 0) (v := r8) S7 (Or.inl rfl)), fun h13 S13 => ⟨rfl, Or.inl ⟨q, e2, S13⟩⟩⟩
    · rw [e1] at S7 V7
      have hv : tkV tp n b1 < 100 := by have := e2.2.2.2; omega
      rw [V7 _ _ _ rfl]
      have ok : PDok (pdS d 0 (tkV tp n b1)) := pdS_ok D (Or.inl rfl) (fun _ => h0 c0) e2.2.2.1 e2.2.2.2
      refine ⟨S7.b1, S7.k, _, k_nextS (SS.putG S7 (Or.inl rfl) hv ok), fun h13 S13 => ⟨rfl, Or.inr ⟨_, _, ?_, S13⟩⟩⟩
      rw [e4, e3]
  · have c0 : 0 < cl := Nat.pos_of_ne_zero fun y => z (by rw [y]; decide)
    rintro r8 h7 ⟨S7, V7⟩
    have ec : clSet tp n d cl 0 b = .inl (4, b) := by
      unfold clSet
      rw [ite'_t (Or.inl ⟨rfl, c0⟩)]
    exact ⟨S7.b1, S7.k, _, k_nextS (SS.putB (k := 0) (v := r8) S7 (Or.inl rfl)), fun h13 S13 => ⟨rfl, Or.inl ⟨_, ec, S13⟩⟩⟩
theorem clOf_1 (e : whB tp n b = 1) : clOf tp n d cl b = clCar tp n d b := by
  unfold clOf
  rw [ite'_t e]
theorem clOf_2 (e : whB tp n b = 2) : clOf tp n d cl b = clRid tp n d b := by
  unfold clOf
  rw [ite'_f (fun y => absurd (e.symm.trans y) (by decide)), ite'_t e]
theorem clOf_7 (e : whB tp n b = 7) : clOf tp n d cl b = .inl (1, b) := by
  unfold clOf
  rw [ite'_f (fun y => absurd (e.symm.trans y) (by decide)), ite'_f (fun y => absurd (e.symm.trans y) (by decide)), ite'_t e]
theorem clOf_s {k : Nat} (e : whB tp n b = k) (h1 : k ≠ 1) (h2 : k ≠ 2) (h7 : k ≠ 7) : clOf tp n d cl b = clSet tp n d cl k b := by
  unfold clOf
  rw [ite'_f (fun y => h1 (e.symm.trans y)), ite'_f (fun y => h2 (e.symm.trans y)), ite'_f (fun y => h7 (e.symm.trans y))]
  show clSet tp n d cl (whB tp n b) b = _
  rw [e]
theorem k_readClause (S : SS tp n g (tdO d) h (.inr (d, cl, b))) (xo : XO l x) (h0 : cl = 0 → d.2.2.2.1 = 0 ∧ d.2.2.2.2.2 = 0) (hcl : cl < 1000) : CV l x mX4_readClause 8 0 0 [.ref 1] h (fun h' => PK tp n g cl (clOf tp n d cl b) h') := by
  have T := S.gd.1
  have wd : ∀ k, k < 10 → CI l x mX4_isWord 6 0 0 [.ref 1, .retAddr k] h (fun r h' => (isW tp n k b ∧ r = 1 ∨ ¬ isW tp n k b ∧ r = 0) ∧ h' = h) := fun k hk => k_isWord T.2.1 T.2.2.1 T.2.2.2 xo.2 hk
  have yes : ∀ {k : Nat} {r : Int32}, (isW tp n k b ∧ r = 1 ∨ ¬ isW tp n k b ∧ r = 0) → ¬ r = 0 → isW tp n k b := fun w z => w.elim (fun y => y.1) fun y => absurd y.2 z
  have no : ∀ {k : Nat} {r : Int32}, (isW tp n k b ∧ r = 1 ∨ ¬ isW tp n k b ∧ r = 0) → r = 0 → ¬ isW tp n k b := fun w z => w.elim (fun y => absurd (y.2.symm.trans z) (by decide)) fun y => y.1
  have at_ : ∀ {k : Nat}, k < 7 → isW tp n k b → (∀ m, m < k → ¬ isW tp n m b) → whB tp n b = k := fun hk hy hm => whA_eq (P := fun k => isW tp n k b) hy 7 0 (Nat.zero_le _) (by omega) fun m _ h2 => hm m h2
  refine Cm.of (by decide) (Nat.le_of_ble_eq_true rfl) (vX4_readClause_0 ⟨xo.1.tx_RX4_88, S.k, _, wd 0 (by decide), ?_⟩)
  rintro r0 h0x ⟨w0, eh⟩
  rw [eh]
  clear eh h0x
  refine ⟨fun z => ?_, fun z => ?_⟩
  rotate_left
  · have y := yes w0 z
    have e := at_ (k := 0) (by decide) y (fun m hm => absurd hm (Nat.not_lt_zero m))
    rw [clOf_s e (by decide) (by decide) (by decide)]
    exact ⟨S.k, _, k_readFloors S y.1 h0 hcl, fun h97 q => ⟨rfl, q⟩⟩
  have n0 := no w0 z
  clear z
  refine ⟨xo.1.tx_RX4_97, S.k, _, wd 1 (by decide), ?_⟩
  rintro r1 h1x ⟨w1, eh⟩
  rw [eh]
  clear eh h1x
  refine ⟨fun z => ?_, fun z => ?_⟩
  rotate_left
  · have y := yes w1 z
    have e := at_ (k := 1) (by decide) y (fun m hm => by
      have : m = 0 := by omega
      rw [this]; exact n0)
    rw [clOf_1 e]
    exact ⟨S.k, _, k_readCar S xo y.1, fun h97 q => ⟨rfl, q⟩⟩
  have n1 := no w1 z
  clear z
  refine ⟨xo.1.tx_RX4_102, S.k, _, wd 2 (by decide), ?_⟩
  rintro r2 h2x ⟨w2, eh⟩
  rw [eh]
  clear eh h2x
  refine ⟨fun z => ?_, fun z => ?_⟩
  rotate_left
  · have y := yes w2 z
    have e := at_ (k := 2) (by decide) y (fun m hm => by
      have : m = 0 ∨ m = 1 := by omega
      rcases this with rfl | rfl
      · exact n0
      · exact n1)
    rw [clOf_2 e]
    exact ⟨S.k, _, k_readRider S xo y.1, fun h97 q => ⟨rfl, q⟩⟩
  have n2 := no w2 z
  clear z
  refine ⟨xo.1.tx_RX4_107, S.k, _, wd 3 (by decide), ?_⟩
  rintro r3 h3x ⟨w3, eh⟩
  rw [eh]
  clear eh h3x
  refine ⟨fun z => ?_, fun z => ?_⟩
  rotate_left
  · have y := yes w3 z
    have e := at_ (k := 3) (by decide) y (fun m hm => by
      have : m = 0 ∨ m = 1 ∨ m = 2 := by omega
      rcases this with rfl | rfl | rfl
      · exact n0
      · exact n1
      · exact n2)
    rw [clOf_s e (by decide) (by decide) (by decide)]
    obtain ⟨c1, c2, c3, c4, c5, c6⟩ := k_setting (l := l) (x := x) (k := 3) S y.1 (by decide)
    exact ⟨c1, c2, c3, c4, c5, fun r60 h59 q => ⟨(c6 r60 h59 q).1, rfl, (c6 r60 h59 q).2⟩⟩
  have n3 := no w3 z
  clear z
  refine ⟨xo.1.tx_RX4_115, S.k, _, wd 4 (by decide), ?_⟩
  rintro r4 h4x ⟨w4, eh⟩
  rw [eh]
  clear eh h4x
  refine ⟨fun z => ?_, fun z => ?_⟩
  rotate_left
  · have y := yes w4 z
    have e := at_ (k := 4) (by decide) y (fun m hm => by
      have : m = 0 ∨ m = 1 ∨ m = 2 ∨ m = 3 := by omega
      rcases this with rfl | rfl | rfl | rfl
      · exact n0
      · exact n1
      · exact n2
      · exact n3)
    rw [clOf_s e (by decide) (by decide) (by decide)]
    obtain ⟨c1, c2, c3, c4, c5, c6⟩ := k_setting (l := l) (x := x) (k := 4) S y.1 (by decide)
    exact ⟨c1, c2, c3, c4, c5, fun r60 h59 q => ⟨(c6 r60 h59 q).1, rfl, (c6 r60 h59 q).2⟩⟩
  have n4 := no w4 z
  clear z
  refine ⟨xo.1.tx_RX4_119, S.k, _, wd 5 (by decide), ?_⟩
  rintro r5 h5x ⟨w5, eh⟩
  rw [eh]
  clear eh h5x
  refine ⟨fun z => ?_, fun z => ?_⟩
  rotate_left
  · have y := yes w5 z
    have e := at_ (k := 5) (by decide) y (fun m hm => by
      have : m = 0 ∨ m = 1 ∨ m = 2 ∨ m = 3 ∨ m = 4 := by omega
      rcases this with rfl | rfl | rfl | rfl | rfl
      · exact n0
      · exact n1
      · exact n2
      · exact n3
      · exact n4)
    rw [clOf_s e (by decide) (by decide) (by decide)]
    obtain ⟨c1, c2, c3, c4, c5, c6⟩ := k_setting (l := l) (x := x) (k := 5) S y.1 (by decide)
    exact ⟨c1, c2, c3, c4, c5, fun r60 h59 q => ⟨(c6 r60 h59 q).1, rfl, (c6 r60 h59 q).2⟩⟩
  have n5 := no w5 z
  clear z
  refine ⟨xo.1.tx_RX4_123, S.k, _, wd 6 (by decide), ?_⟩
  rintro r6 h6x ⟨w6, eh⟩
  rw [eh]
  clear eh h6x
  refine ⟨fun z => ?_, fun z => ?_⟩
  rotate_left
  · have y := yes w6 z
    have e := at_ (k := 6) (by decide) y (fun m hm => by
      have : m = 0 ∨ m = 1 ∨ m = 2 ∨ m = 3 ∨ m = 4 ∨ m = 5 := by omega
      rcases this with rfl | rfl | rfl | rfl | rfl | rfl
      · exact n0
      · exact n1
      · exact n2
      · exact n3
      · exact n4
      · exact n5)
    rw [clOf_s e (by decide) (by decide) (by decide)]
    obtain ⟨c1, c2, c3, c4, c5, c6⟩ := k_setting (l := l) (x := x) (k := 6) S y.1 (by decide)
    exact ⟨c1, c2, c3, c4, c5, fun r60 h59 q => ⟨(c6 r60 h59 q).1, rfl, (c6 r60 h59 q).2⟩⟩
  have n6 := no w6 z
  clear z
  have e : whB tp n b = 7 := whA_no (P := fun k => isW tp n k b) 7 0 fun m _ hm => by
    have : m = 0 ∨ m = 1 ∨ m = 2 ∨ m = 3 ∨ m = 4 ∨ m = 5 ∨ m = 6 := by omega
    rcases this with rfl | rfl | rfl | rfl | rfl | rfl | rfl
    · exact n0
    · exact n1
    · exact n2
    · exact n3
    · exact n4
    · exact n5
    · exact n6
  rw [clOf_7 e]
  exact ⟨S.k, _, k_fail S (k := 1) (by decide), fun h53 S53 => ⟨rfl, Or.inl ⟨_, rfl, S53⟩⟩⟩
def RK (tp : Nat → Int32) (n : Nat) (g : PH) (r : (Int32 × Nat) ⊕ PD) (h : PH) : Prop := match r with
  | .inl q => SS tp n g 0 h (.inl q)
  | .inr d => ∃ cl b, SS tp n g (tdO d) h (.inr (d, cl, b))
theorem l_rdB {v : Int32} (S : SS tp n g td h (.inl q)) (K : Q (some (.int (hI h 1 10))) h) : Gm l x mX4_read 9 53 [(0, .ref 1), (1, .int v)] [] h rc rs n0 Q X :=
  vX4_read_53 ⟨S.k, fun _ => K, fun _ => ⟨fun _ => K, fun _ => ⟨fun _ => K, fun y => absurd (S.2.1.symm.trans y) S.2.2.1⟩⟩⟩
theorem l_rd49 {v : Int32} (xo : XO l x) : ∀ (k : Nat) (d : PD) (cl b : Nat) (h : PH), n < b + k → SS tp n g (tdO d) h (.inr (d, cl, b)) → (cl = 0 → d.2.2.2.1 = 0 ∧ d.2.2.2.2.2 = 0) → cl ≤ b → (∀ h', RK tp n g (prs tp n k d cl b) h' → Q (some (.int (hI h' 1 10))) h') → Gm l x mX4_read 9 53 [(0, .ref 1), (1, .int v)] [] h rc rs n0 Q X
  | 0, d, cl, b, h, hk, S, _, _, _ => by have := S.gd.1.2.2.2; omega
  | k + 1, d, cl, b, h, hk, S, h0, hc, K => by
    obtain ⟨T, e9, _, e7, _, _, hd⟩ := S.gd
    have hn := T.2.1.2.2.2.2.1
    have hb := T.2.2.2
    have kl := tkK_lt (tp := tp) (n := n) (b := b)
    refine vX4_read_53 ⟨S.k, fun y => absurd y (by rw [e7]; exact Int32.not_lt.mpr (nI_le (b := 900) (by omega) (by decide))), fun _ => ⟨fun y => K _ ?_, fun y => ⟨fun y => absurd e9 y, fun _ => ⟨_, k_readClause S xo h0 (by omega), fun h7 q7 => ?_⟩⟩⟩⟩
    · rw [T.2.2.1.2.1] at y
      have z : tkK tp n b = 0 := (nI_eq (b := 0) (by omega) (by decide)).mp y
      rw [prs_0 z]
      exact ⟨cl, b, S⟩
    · have z : ¬ tkK tp n b = 0 := fun e => y (by rw [T.2.2.1.2.1, e]; rfl)
      have G := good_clOf (cl := cl) hd hb z h0
      rcases q7 with ⟨q, e, S7⟩ | ⟨d', b', e, S7⟩
      · rw [prs_l z e] at K
        refine ⟨S7.k, fun _ => ⟨_, k_nextS S7.cls, fun h12 S12 => l_rdB S12 (K _ S12)⟩, fun _ => ⟨_, k_fail S7 (k := 1) (by decide), fun h15 S15 => ⟨S15.k, _, k_nextS S15.cls, fun h19 S19 => l_rdB S19 (K _ S19)⟩⟩⟩
      · have t7 := S7.gd.1.2.2.1.2.1
        have kl' := tkK_lt (tp := tp) (n := n) (b := b')
        refine ⟨S7.k, fun y3 => ?_, fun y3 => ?_⟩
        · rw [t7] at y3
          have z3 : tkK tp n b' = 3 := (nI_eq (b := 3) (by omega) (by decide)).mp y3
          have ea : aE tp n b' = tkE tp n b' := by unfold aE; rw [z3, if_neg (by decide)]
          have e' : clOf tp n d cl b = .inr (d', tokB tp n (aE tp n b')) := by rw [e, ea]; exact ite'_t z3
          rw [prs_r z e'] at K
          have G2 := G _ _ e'
          exact ⟨_, k_nextS S7.cls, fun h12 S12 => l_rd49 xo k d' (cl + 1) (tokB tp n (aE tp n b')) h12 (by omega) S12 (fun y => absurd y (by omega)) (by omega) K⟩
        · rw [t7] at y3
          have z3 : ¬ tkK tp n b' = 3 := fun w => y3 (by rw [w]; rfl)
          have e' : clOf tp n d cl b = .inl (1, b') := by rw [e]; exact ite'_f z3
          rw [prs_l z e'] at K
          exact ⟨_, k_fail S7 (k := 1) (by decide), fun h15 S15 => ⟨S15.k, _, k_nextS S15.cls, fun h19 S19 => l_rdB S19 (K _ S19)⟩⟩
theorem k_read {t0 ct0 rt0 : Nat → Int32} {tl : Nat} (L : LBS h 0) (hl : hI h 1 1 = nI tl) (hle : n ≤ tl) (h9 : tl ≤ 900) (ht : ∀ i, i < n → hI h 2 i = tp i) (hby : BY n tp) (xo : XO l x) (h0 : ∀ k, k < 7 → t0 k = tZ k) : CI l x mX4_read 9 0 0 [.ref 1, .int (nI n)] h (fun r h' => r = hI h' 1 10 ∧ RK tp n h (prs tp n (n + 1) (t0, ct0, rt0, 0, 8, 0) 0 (tokB tp n 0)) h') := by
  obtain ⟨_, _, l3, l4, l5, l6, l7, _⟩ := L
  have hn : n ≤ 900 := by omega
  have hk : (hK h 1).1 = 4 := l3
  have r0 : hR h 1 0 = some 2 := l4
  have r1 : hR h 1 2 = some 3 := l6
  have k1 : hK h 2 = (101, 900) := l5
  have B2 : BS h 3 := l7
  refine Cm.of (by decide) (Nat.le_of_ble_eq_true rfl) (vX4_read_0 ⟨hk, 3, r1, B2.k, _, k_clear B2, ?_⟩)
  rintro h7 ⟨f7, z7⟩
  have k17 : hK h7 2 = (101, 900) := by rw [f7.hK]; exact k1
  have l17 : hI h7 1 1 = nI tl := by rw [f7.hI (by decide)]; exact hl
  refine ⟨by rw [f7.hK]; exact hk, ?_⟩
  have en : (if hI h7 1 1 < nI n then hI h7 1 1 else nI n) = nI n := by
    rw [l17]
    exact if_neg (Int32.not_lt.mpr (nI_le hle (by omega)))
  rw [en]
  have f8 : Fr1 1 h7 (sI (sI (sI (sI (sI (sI (sI h7 1 3 (nI n)) 1 1 0) 1 4 0) 1 8 0) 1 9 0) 1 10 0) 1 11 (-1)) := (((((((Fr1.refl _ _).sI _ _).sI _ _).sI _ _).sI _ _).sI _ _).sI _ _).sI _ _
  have i2 : hI (sI (sI (sI (sI (sI (sI (sI h7 1 3 (nI n)) 1 1 0) 1 4 0) 1 8 0) 1 9 0) 1 10 0) 1 11 (-1)) 1 3 = nI n := by rw [gIk _ _ _ (by decide), gIk _ _ _ (by decide), gIk _ _ _ (by decide), gIk _ _ _ (by decide), gIk _ _ _ (by decide), gIk _ _ _ (by decide), gI]
  have i1 : hI (sI (sI (sI (sI (sI (sI (sI h7 1 3 (nI n)) 1 1 0) 1 4 0) 1 8 0) 1 9 0) 1 10 0) 1 11 (-1)) 1 1 = 0 := by rw [gIk _ _ _ (by decide), gIk _ _ _ (by decide), gIk _ _ _ (by decide), gIk _ _ _ (by decide), gIk _ _ _ (by decide), gI]
  have i3 : hI (sI (sI (sI (sI (sI (sI (sI h7 1 3 (nI n)) 1 1 0) 1 4 0) 1 8 0) 1 9 0) 1 10 0) 1 11 (-1)) 1 4 = nI 0 := by rw [gIk _ _ _ (by decide), gIk _ _ _ (by decide), gIk _ _ _ (by decide), gIk _ _ _ (by decide), gI]; rfl
  have i7 : hI (sI (sI (sI (sI (sI (sI (sI h7 1 3 (nI n)) 1 1 0) 1 4 0) 1 8 0) 1 9 0) 1 10 0) 1 11 (-1)) 1 8 = nI 0 := by rw [gIk _ _ _ (by decide), gIk _ _ _ (by decide), gIk _ _ _ (by decide), gI]; rfl
  have i8 : hI (sI (sI (sI (sI (sI (sI (sI h7 1 3 (nI n)) 1 1 0) 1 4 0) 1 8 0) 1 9 0) 1 10 0) 1 11 (-1)) 1 9 = 0 := by rw [gIk _ _ _ (by decide), gIk _ _ _ (by decide), gI]
  have i9 : hI (sI (sI (sI (sI (sI (sI (sI h7 1 3 (nI n)) 1 1 0) 1 4 0) 1 8 0) 1 9 0) 1 10 0) 1 11 (-1)) 1 10 = 0 := by rw [gIk _ _ _ (by decide), gI]
  have i10 : hI (sI (sI (sI (sI (sI (sI (sI h7 1 3 (nI n)) 1 1 0) 1 4 0) 1 8 0) 1 9 0) 1 10 0) 1 11 (-1)) 1 11 = -1 := gI _ _ _ _
  generalize sI (sI (sI (sI (sI (sI (sI h7 1 3 (nI n)) 1 1 0) 1 4 0) 1 8 0) 1 9 0) 1 10 0) 1 11 (-1) = h8 at *
  have w8 : TH tp n h8 := ⟨by rw [f8.hK, f7.hK]; exact hk, by rw [f8.hR, f7.hR]; exact r0, by rw [f8.hK]; exact k17, fun i hi => by rw [f8.hI (by decide), f7.hI (by decide)]; exact ht i hi, hn, hby, i2, by rw [f8.hR, f7.hR]; exact r1, (B2.fr f7).fr f8, i1⟩
  refine ⟨_, k_next w8 i9 (Nat.zero_le n) i3, ?_⟩
  rintro h14 ⟨a14, t14⟩
  have N : ∀ j, ¬ (j = 4 ∨ j = 5 ∨ j = 6 ∨ j = 7) → hI h14 1 j = hI h8 1 j := fun j hj => a14.2.2.2 1 j fun z => hj z.2
  have A2 : ∀ c, c ≠ 1 → Ac c h8 h14 := fun c hc => a14.acP fun j => by unfold ntP; omega
  have z14 : BZ h14 3 := (z7.ac fun k => f8.hI (by decide) k).ac fun k => (A2 3 (by decide)).hI k
  have tl : ∀ k, k < 7 → tellsT t0 k = tellsT tZ k := fun k hk => by unfold tellsT; rw [h0 k hk]
  have fx : FrX 1 35 h h14 := ((f7.frx (by decide) (by decide)).trans (f8.frx (by decide) (by decide))).trans ⟨a14.1, a14.2.1, congrArg (fun q => q.2.2) a14.2.2.1, fun c hc k => ⟨a14.2.2.2 c k (by unfold ntP; omega), congrFun (congrFun (congrArg (fun q => q.1) a14.2.2.1) c) k, congrFun (congrFun (congrArg (fun q => q.2.1) a14.2.2.1) c) k⟩⟩
  have td : tdO (t0, ct0, rt0, 0, 8, 0) = 0 := tdO_0 (h0 3 (by decide)) (h0 4 (by decide)) (h0 5 (by decide)) (h0 6 (by decide))
  have S14 : SS tp n h (tdO (t0, ct0, rt0, 0, 8, 0)) h14 (.inr ((t0, ct0, rt0, 0, 8, 0), 0, tokB tp n 0)) :=
    ⟨⟨fx, w8.sg a14, t14, (tokB_le (Nat.zero_le n)).2⟩, (N 10 (by decide)).trans i9, (N 11 (by decide)).trans i10, (N 8 (by decide)).trans i7, (N 9 (by decide)).trans (i8.trans td.symm), BR_zero (((B2.fr f7).fr f8).rk a14.hK a14.hR) z14 ((tl 3 (by decide)).trans rfl) ((tl 4 (by decide)).trans rfl) ((tl 5 (by decide)).trans rfl) ((tl 6 (by decide)).trans rfl), TD_zero h0⟩
  exact l_rd49 xo (n + 1) _ 0 _ h14 (by omega) S14 (fun _ => ⟨rfl, rfl⟩) (Nat.zero_le _) fun h' q => ⟨_, rfl, rfl, q⟩
end ClauseK
