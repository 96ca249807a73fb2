/-! THE CLASS READS A TEXT: numbers, floors, faults; good: what was told (d), clauses (cl), the token at b; bad: the fault and its place -/
abbrev ST : Type := (Int32 × Nat) ⊕ (PD × Nat × Nat)
def KT (tp : Nat → Int32) (n : Nat) (g h : PH) (b : Nat) : Prop := FrX 1 35 g h ∧ TH tp n h ∧ TKC tp n h b ∧ b ≤ n
def SS (tp : Nat → Int32) (n : Nat) (g : PH) (td : Int32) (h : PH) (s : ST) : Prop := match s with
  | .inl q => (∃ b, KT tp n g h b) ∧ hI h 1 10 = q.1 ∧ q.1 ≠ 0 ∧ hI h 1 11 = nI q.2 ∧ inR (hI h 3 1) 5 ∧ inR (hI h 3 2) 25
  | .inr q => KT tp n g h q.2.2 ∧ hI h 1 10 = 0 ∧ hI h 1 11 = -1 ∧ hI h 1 8 = nI q.2.1 ∧ hI h 1 9 = td ∧ BT h 3 q.1.1 q.1.2.1 q.1.2.2.1 q.1.2.2.2.1 q.1.2.2.2.2.1 q.1.2.2.2.2.2 ∧ PDok q.1
def nxS (tp : Nat → Int32) (n : Nat) (s : ST) : ST := match s with
  | .inl q => .inl q
  | .inr q => .inr (q.1, q.2.1, tokB tp n (aE tp n q.2.2))
def flS (k : Int32) (s : ST) : ST := match s with
  | .inl q => .inl q
  | .inr q => .inl (k, q.2.2)
noncomputable def nbS (tp : Nat → Int32) (n lo hi : Nat) (s : ST) : ST := match s with
  | .inl q => .inl q
  | .inr q => ite' (NB tp n lo hi q.2.2) (.inr q) (.inl (nuE tp n q.2.2, q.2.2))
noncomputable def nuS (tp : Nat → Int32) (n lo hi : Nat) (s : ST) : ST := nbS tp n lo hi (nxS tp n s)
noncomputable def fbS (tp : Nat → Int32) (n : Nat) (s : ST) : ST := match s with
  | .inl q => .inl q
  | .inr q => ite' (tkV tp n q.2.2 < q.1.2.2.2.2.1) (.inr q) (.inl (3, q.2.2))
noncomputable def foS (tp : Nat → Int32) (n : Nat) (s : ST) : ST := fbS tp n (nuS tp n 0 99 s)
def VL (tp : Nat → Int32) (n : Nat) (s : ST) (r : Int32) : Prop := ∀ d cl b, s = .inr (d, cl, b) → r = nI (tkV tp n b)
section NumK
variable {l : Launch} {x : CX} {g h h' : PH} {tp : Nat → Int32} {n b cl : Nat} {td : Int32} {s : ST} {d : PD} {q : Int32 × Nat}
theorem KT.nx (T : KT tp n g h b) (a : SG ntP h h') {b' : Nat} (t : TKC tp n h' b') (hb : b' ≤ n) : KT tp n g h' b' :=
  ⟨T.1.trans ⟨a.1, a.2.1, congrArg (fun q => q.2.2) a.2.2.1, fun c hc k => ⟨a.2.2.2 c k (by unfold ntP; omega), congrFun (congrFun (congrArg (fun q => q.1) a.2.2.1) c) k, congrFun (congrFun (congrArg (fun q => q.2.1) a.2.2.1) c) k⟩⟩, T.2.1.sg a, t, hb⟩
theorem SG.acP {P : Nat → Nat → Prop} (a : SG P h h') {c : Nat} (hc : ∀ j, ¬ P c j) : Ac c h h' :=
  ⟨a.hK c, fun k => ⟨a.2.2.2 c k (hc k), congrFun (congrFun (congrArg (fun q => q.1) a.2.2.1) c) k, congrFun (congrFun (congrArg (fun q => q.2.1) a.2.2.1) c) k, a.hR c k⟩⟩
theorem SS.gd (S : SS tp n g td h (.inr (d, cl, b))) : KT tp n g h b ∧ hI h 1 10 = 0 ∧ hI h 1 11 = -1 ∧ hI h 1 8 = nI cl ∧ hI h 1 9 = td ∧ BT h 3 d.1 d.2.1 d.2.2.1 d.2.2.2.1 d.2.2.2.2.1 d.2.2.2.2.2 ∧ TD d.1 d.2.1 d.2.2.1 d.2.2.2.1 d.2.2.2.2.1 d.2.2.2.2.2 := S
theorem SS.of (S : KT tp n g h b ∧ hI h 1 10 = 0 ∧ hI h 1 11 = -1 ∧ hI h 1 8 = nI cl ∧ hI h 1 9 = td ∧ BT h 3 d.1 d.2.1 d.2.2.1 d.2.2.2.1 d.2.2.2.2.1 d.2.2.2.2.2 ∧ TD d.1 d.2.1 d.2.2.1 d.2.2.2.1 d.2.2.2.2.1 d.2.2.2.2.2) : SS tp n g td h (.inr (d, cl, b)) := S
theorem SS.tok (S : SS tp n g td h s) : ∃ b, KT tp n g h b := by
  rcases s with q | q
  · exact S.1
  · exact ⟨_, S.1⟩
theorem SS.th (S : SS tp n g td h s) : TH tp n h := by
  obtain ⟨b, T⟩ := S.tok
  exact T.2.1
theorem SS.k (S : SS tp n g td h s) : (hK h 1).1 = 4 := S.th.1
theorem SS.bk (S : SS tp n g td h s) : hR h 1 2 = some 3 := S.th.2.2.2.2.2.2.2.1
theorem SS.b1 (S : SS tp n g td h s) : (hK h 3).1 = 1 := S.th.2.2.2.2.2.2.2.2.1.k
theorem k_nextS (S : SS tp n g td h s) : CV l x mX4_next 1 0 0 [.ref 1] h (fun h' => SS tp n g td h' (nxS tp n s)) := by
  rcases s with q | ⟨d, cl, b⟩
  · exact Cm.of (by decide) (Nat.le_of_ble_eq_true rfl) (vX4_next_0 ⟨S.k, fun z => absurd (S.2.1.symm.trans z) S.2.2.1, fun _ => ⟨rfl, S⟩⟩)
  · obtain ⟨T, h9, h10, h7, h8, B, D'⟩ := S.gd
    have r20 := D'.r20
    have la := aE_le (tp := tp) T.2.2.2
    refine Cm.mono (k_next T.2.1 h9 la.2 T.2.2.1.1) ?_
    rintro v h1 ⟨ev, a, t⟩
    have N : ∀ j, ¬ (j = 4 ∨ j = 5 ∨ j = 6 ∨ j = 7) → hI h1 1 j = hI h 1 j := fun j hj => a.2.2.2 1 j fun z => hj z.2
    refine ⟨ev, T.nx a t (tokB_le la.2).2, (N 10 (by decide)).trans h9, (N 11 (by decide)).trans h10, (N 8 (by decide)).trans h7, (N 9 (by decide)).trans h8, ?_, D'⟩
    exact B.ac D'.c4 (by omega) (B.s.rk a.hK a.hR) fun c h1 h2 _ => a.acP fun j => by unfold ntP; omega
theorem k_fail {k : Int32} (S : SS tp n g td h s) (hk : k ≠ 0) : CV l x mX4_fail 0 0 0 [.ref 1, .int k] h (fun h' => SS tp n g td h' (flS k s)) := by
  rcases s with q | ⟨d, cl, b⟩
  · exact Cm.of (by decide) (Nat.le_of_ble_eq_true rfl) (vX4_fail_0 ⟨S.k, fun _ => ⟨rfl, S⟩, fun z => absurd (S.2.1.symm.trans z) S.2.2.1⟩)
  · have Sk := S.k
    obtain ⟨T, h9, h10, h7, h8, B, D'⟩ := S.gd
    have r20 := D'.r20
    have c4 := D'.c4
    refine Cm.of (by decide) (Nat.le_of_ble_eq_true rfl) (vX4_fail_0 ⟨Sk, fun z => absurd h9 z, fun _ => ⟨rfl, ?_⟩⟩)
    have f1 : Fr1 1 h (sI (sI h 1 10 k) 1 11 (hI h 1 6)) := ((Fr1.refl _ _).sI _ _).sI _ _
    have N : ∀ j, j ≠ 10 → j ≠ 11 → hI (sI (sI h 1 10 k) 1 11 (hI h 1 6)) 1 j = hI h 1 j := fun j h1 h2 => by rw [gIk _ _ _ h2, gIk _ _ _ h1]
    obtain ⟨t1, t2, t3, t4⟩ := T
    obtain ⟨w1, w2, w3, w4, w5, w6, w7, w8, w9, w10⟩ := t2
    refine ⟨⟨b, t1.trans (f1.frx (by decide) (by decide)), ⟨w1, w2, w3, fun i hi => by rw [f1.hI (by decide)]; exact w4 i hi, w5, w6, by rw [N 3 (by decide) (by decide)]; exact w7, w8, w9.fr f1, by rw [N 1 (by decide) (by decide)]; exact w10⟩, ⟨by rw [N 4 (by decide) (by decide)]; exact t3.1, by rw [N 5 (by decide) (by decide)]; exact t3.2.1, by rw [N 6 (by decide) (by decide)]; exact t3.2.2.1, by rw [N 7 (by decide) (by decide)]; exact t3.2.2.2⟩, t4⟩, ?_, hk, ?_, ?_, ?_⟩
    · rw [gIk _ _ _ (by decide), gI]
    · rw [gI]; exact t3.2.2.1
    · rw [f1.hI (by decide)]; exact ⟨_, by omega, B.nc⟩
    · rw [f1.hI (by decide)]; exact ⟨_, by omega, B.nr⟩
theorem nbS_t {lo hi : Nat} (z : NB tp n lo hi b) : nbS tp n lo hi (.inr (d, cl, b)) = .inr (d, cl, b) := ite'_t z
theorem nbS_f {lo hi : Nat} (z : ¬ NB tp n lo hi b) : nbS tp n lo hi (.inr (d, cl, b)) = .inl (nuE tp n b, b) := ite'_f z
theorem fbS_t (z : tkV tp n b < d.2.2.2.2.1) : fbS tp n (.inr (d, cl, b)) = .inr (d, cl, b) := ite'_t z
theorem fbS_f (z : ¬ tkV tp n b < d.2.2.2.2.1) : fbS tp n (.inr (d, cl, b)) = .inl (3, b) := ite'_f z
theorem nuS_v {lo hi : Nat} (e : nuS tp n lo hi s = .inr (d, cl, b)) : NB tp n lo hi b := by
  unfold nuS at e
  generalize nxS tp n s = s4 at e
  rcases s4 with q | ⟨d', cl', b'⟩
  · cases e
  · by_cases z : NB tp n lo hi b'
    · rw [nbS_t z] at e
      cases e
      exact z
    · rw [nbS_f z] at e
      cases e
theorem VL.bad {r : Int32} : VL tp n (.inl q) r := fun _ _ _ e => by cases e
theorem VL.good {r : Int32} (e : r = nI (tkV tp n b)) : VL tp n (.inr (d, cl, b)) r := fun d' c' b' z => by cases z; exact e
theorem k_readNumber {lo hi : Nat} (S : SS tp n g td h s) (hl : lo < 1000) (hh : hi < 1000) : CI l x mX4_readNumber 2 0 0 [.ref 1, .int (nI lo), .int (nI hi)] h (fun r h' => SS tp n g td h' (nuS tp n lo hi s) ∧ VL tp n (nuS tp n lo hi s) r) := by
  refine Cm.of (by decide) (Nat.le_of_ble_eq_true rfl) (vX4_readNumber_0 ⟨S.k, _, k_nextS S, fun h4 S4 => ?_⟩)
  unfold nuS
  generalize nxS tp n s = s4 at S4 ⊢
  rcases s4 with q | ⟨d, cl, b⟩
  · have h9 : ¬ hI h4 1 10 = 0 := fun z => absurd (S4.2.1.symm.trans z) S4.2.2.1
    exact ⟨S4.k, fun _ => ⟨fun _ => ⟨_, rfl, S4, VL.bad⟩, fun z => absurd z h9⟩, fun z => absurd z h9⟩
  · obtain ⟨T, h9, _⟩ := S4.gd
    have hn := T.2.1.2.2.2.2.1
    have t3 := T.2.2.1
    have te := tkE_le (tp := tp) T.2.2.2
    have no : ∀ (k : Int32), k ≠ 0 → ¬ NB tp n lo hi b → nuE tp n b = k → ∃ (q : PH → Prop), CV l x mX4_fail 0 0 0 [.ref 1, .int k] h4 q ∧ ∀ (h5 : PH), q h5 → (hK h5 1).1 = 4 ∧ ¬ hI h5 1 10 = 0 ∧ ∃ r, some (Value.int (if hI h5 1 10 = 0 then hI h5 1 7 else nI lo)) = some (Value.int r) ∧ SS tp n g td h5 (nbS tp n lo hi (.inr (d, cl, b))) ∧ VL tp n (nbS tp n lo hi (.inr (d, cl, b))) r := fun k hk z e => by
      refine ⟨_, k_fail S4 hk, fun h5 S5 => ⟨S5.k, ?_, _, rfl, ?_⟩⟩
      · exact fun y => absurd (S5.2.1.symm.trans y) hk
      · rw [nbS_f z, e]
        exact ⟨S5, VL.bad⟩
    have no2 : ∀ (k : Int32), k ≠ 0 → ¬ NB tp n lo hi b → nuE tp n b = k → ∃ (q : PH → Prop), CV l x mX4_fail 0 0 0 [.ref 1, .int k] h4 q ∧ ∀ (h5 : PH), q h5 → (hK h5 1).1 = 4 ∧ ∃ r, some (Value.int (if hI h5 1 10 = 0 then hI h5 1 7 else nI lo)) = some (Value.int r) ∧ SS tp n g td h5 (nbS tp n lo hi (.inr (d, cl, b))) ∧ VL tp n (nbS tp n lo hi (.inr (d, cl, b))) r := fun k hk z e => by
      obtain ⟨q, c, r⟩ := no k hk z e
      exact ⟨q, c, fun h5 y => ⟨(r h5 y).1, (r h5 y).2.2⟩⟩
    refine ⟨S4.k, fun z => absurd h9 z, fun _ => ⟨fun k2 => ⟨fun z => absurd h9 z, fun _ => ?_⟩, fun k2 => ?_⟩⟩
    · have ek : tkK tp n b = 2 := by
        rw [t3.2.1] at k2
        exact (nI_eq (b := 2) (by have := tkK_lt (tp := tp) (n := n) (b := b); omega) (by decide)).mp k2
      have ea : aE tp n b = tkE tp n b := by unfold aE; rw [ek, if_neg (by decide)]
      have e2 : nuE tp n b = 2 := by unfold nuE; rw [if_pos ek]
      rw [t3.1, t3.2.2.1, ea, nI_sub te.1]
      refine ⟨fun z => no2 2 (by decide) (fun y => absurd z (Int32.not_lt.mpr (nI_le (b := 2) y.2.1 (by decide)))) e2, fun z => ?_⟩
      have len : tkE tp n b - b ≤ 2 := Nat.le_of_not_lt fun y => z (nI_lt (a := 2) y (by omega))
      have lv := tkV_lt T.2.1.2.2.2.2.2.1 T.2.2.2 ek len
      rw [t3.2.2.2 ek len]
      refine ⟨fun z => no2 2 (by decide) (fun y => absurd z (Int32.not_lt.mpr (nI_le y.2.2.1 (by omega)))) e2, fun z2 => ⟨fun z3 => ?_, fun z => no2 2 (by decide) (fun y => z (nI_le y.2.2.2 (by omega))) e2⟩⟩
      refine ⟨_, rfl, ?_⟩
      have nb : NB tp n lo hi b := ⟨ek, len, Nat.le_of_not_lt fun y => z2 (nI_lt y (by omega)), Nat.le_of_not_lt fun y => absurd z3 (nI_ge y (by omega))⟩
      rw [nbS_t nb]
      exact ⟨S4, VL.good (by rw [if_pos h9])⟩
    · have e1 : ¬ tkK tp n b = 2 := fun z => k2 (by rw [t3.2.1, z]; rfl)
      obtain ⟨q, c, r⟩ := no 1 (by decide) (fun y => e1 y.1) (by unfold nuE; rw [if_neg e1])
      exact ⟨q, c, fun h5 y => ⟨(r h5 y).1, fun _ => (r h5 y).2.2, fun z => absurd z (r h5 y).2.1⟩⟩
theorem k_readFloor (S : SS tp n g td h s) : CI l x mX4_readFloor 3 0 0 [.ref 1] h (fun r h' => SS tp n g td h' (foS tp n s) ∧ VL tp n (foS tp n s) r) := by
  refine Cm.of (by decide) (Nat.le_of_ble_eq_true rfl) (vX4_readFloor_0 ⟨S.k, _, k_readNumber (lo := 0) (hi := 99) S (by decide) (by decide), ?_⟩)
  rintro r h4 ⟨S4, V4⟩
  unfold foS
  have lv : ∀ d cl b, nuS tp n 0 99 s = .inr (d, cl, b) → tkV tp n b < 2147483648 := fun d cl b e => by
    have := (nuS_v e).2.2.2
    omega
  generalize nuS tp n 0 99 s = s4 at S4 V4 lv ⊢
  refine ⟨S4.k, 3, S4.bk, S4.b1, ?_⟩
  rcases s4 with q | ⟨d, cl, b⟩
  · exact ⟨fun _ => ⟨_, rfl, S4, VL.bad⟩, fun _ => ⟨_, k_fail S4 (by decide), fun h13 S13 => ⟨_, rfl, S13, VL.bad⟩⟩⟩
  · have er := V4 d cl b rfl
    obtain ⟨T, _, _, _, _, B, D'⟩ := S4.gd
    have f12 := D'.f12
    have fl : hI h4 3 0 = nI d.2.2.2.2.1 := B.fl
    rw [fl, er]
    have key : nI (tkV tp n b) < nI d.2.2.2.2.1 ↔ tkV tp n b < d.2.2.2.2.1 := nI_ltI (lv d cl b rfl) (by omega)
    refine ⟨fun z => ⟨_, rfl, ?_⟩, fun z => ⟨_, k_fail S4 (by decide), fun h13 S13 => ⟨_, rfl, ?_⟩⟩⟩
    · rw [fbS_t (key.mp z)]
      exact ⟨S4, VL.good rfl⟩
    · rw [fbS_f fun y => z (key.mpr y)]
      exact ⟨S13, VL.bad⟩
theorem k_isWordS {k : Nat} (S : SS tp n g td h s) (xs : XS l x) (hk : k < 10) : CI l x mX4_isWord 6 0 0 [.ref 1, .retAddr k] h (fun r h' => ∃ b', (∀ d cl b, s = .inr (d, cl, b) → b' = b) ∧ (isW tp n k b' ∧ r = 1 ∨ ¬ isW tp n k b' ∧ r = 0) ∧ h' = h) := by
  rcases s with q | ⟨d, cl, b⟩
  · obtain ⟨b, T⟩ := S.1
    refine Cm.mono (k_isWord T.2.1 T.2.2.1 T.2.2.2 xs hk) ?_
    rintro v h1 ⟨r, e, z⟩
    exact ⟨r, e, b, fun _ _ _ y => (by cases y), z⟩
  · have T := S.1
    refine Cm.mono (k_isWord T.2.1 T.2.2.1 T.2.2.2 xs hk) ?_
    rintro v h1 ⟨r, e, z⟩
    exact ⟨r, e, b, fun _ _ _ y => (by cases y; rfl), z⟩
end NumK
