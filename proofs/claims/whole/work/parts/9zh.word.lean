/-! THE REFERENCE READS A TEXT: faults, words, numbers -/
def RwE (mo : Nat) (h : PH) (d : PD) : Prop := (∀ j, hI h (mo + 5) j = d.1 j) ∧ (∀ j, hI h (mo + 7) j = d.2.1 j) ∧ ∀ j, hI h (mo + 9) j = d.2.2.1 j
def SOK (mo : Nat) (tp : Nat → Int32) (n : Nat) (g h : PH) (d : PD) (cl b : Nat) : Prop := SG (rdP mo) g h ∧ hI h mo 18 = 0 ∧ hI h mo 21 = nI cl ∧ RwE mo h d ∧ TKF mo tp n h b ∧ b ≤ n
def SBD (mo : Nat) (g h : PH) (k : Int32) (b : Nat) : Prop := SG (rdP mo) g h ∧ hI h mo 18 = k ∧ k ≠ 0 ∧ hI h mo 19 = nI b
def NB (tp : Nat → Int32) (n lo hi b : Nat) : Prop := tkK tp n b = 2 ∧ tkE tp n b - b ≤ 2 ∧ lo ≤ tkV tp n b ∧ tkV tp n b ≤ hi
def nuE (tp : Nat → Int32) (n b : Nat) : Int32 := if tkK tp n b = 2 then 2 else 1
theorem nuE_0 {tp : Nat → Int32} {n b : Nat} : nuE tp n b ≠ 0 := by unfold nuE; split <;> decide
theorem nuC_ok {tp : Nat → Int32} {n lo hi a : Nat} {k : Nat → Nat → Nat → PR} (h : NB tp n lo hi (tokB tp n a)) : nuC tp n lo hi a k = k (tkV tp n (tokB tp n a)) (tokB tp n a) (tkE tp n (tokB tp n a)) := by
  unfold nuC
  rw [ite'_t h.1, ite'_t h.2]
theorem nuC_no {tp : Nat → Int32} {n lo hi a : Nat} {k : Nat → Nat → Nat → PR} (h : ¬ NB tp n lo hi (tokB tp n a)) : nuC tp n lo hi a k = .inl (nuE tp n (tokB tp n a), tokB tp n a) := by
  unfold nuC nuE
  by_cases z : tkK tp n (tokB tp n a) = 2
  · rw [ite'_t z, ite'_f fun q => h ⟨z, q⟩, if_pos z]
  · rw [ite'_f z, if_neg z]
theorem wordL_m {k : Nat} : wordL (10 + k) = wordL k := by
  unfold wordL
  rw [Nat.add_mod_left]
section Word
variable {l : Launch} {x : CX} {mo : Nat} {g h : PH} {tp : Nat → Int32} {n : Nat} {d : PD} {cl b : Nat}
theorem tkK_lt : tkK tp n b < 5 := by unfold tkK; split; decide; split; decide; split; decide; split <;> decide
theorem SOK.gt (S : SOK mo tp n g h d cl b) (w : GT mo tp n g) : GT mo tp n h := w.sg S.1
theorem SBD.row {k : Int32} (S : SBD mo g h k b) {a j : Nat} {v : Int32} (ha : a = mo + 5 ∨ a = mo + 7 ∨ a = mo + 9) : SBD mo g (sI h a j v) k b :=
  ⟨S.1.trans (SG.sI (by unfold rdP; omega)), by rw [gIa _ _ _ _ (by omega)]; exact S.2.1, S.2.2.1, by rw [gIa _ _ _ _ (by omega)]; exact S.2.2.2⟩
theorem c_wrong (S : SOK mo tp n g h d cl b) (w : GT mo tp n g) {k : Int32} (hk : k ≠ 0) : CV l x mX8_wrong 0 0 0 [.ref mo, .int k] h (fun h' => SBD mo g h' k b) := by
  refine Cm.of (by decide) (Nat.le_of_ble_eq_true rfl) (vX8_wrong_0 ⟨(S.gt w).1.1, fun _ => ⟨rfl, S.1.trans ((SG.sI (by unfold rdP; omega)).trans (SG.sI (by unfold rdP; omega))), ?_, hk, ?_⟩, fun z => absurd S.2.1 z⟩)
  · rw [gIk _ _ _ (by decide), gI]
  · rw [gI]; exact S.2.2.2.2.1.2.2.1
theorem c_wrongB {k v : Int32} (S : SBD mo g h k b) (w : GT mo tp n g) : CV l x mX8_wrong 0 0 0 [.ref mo, .int v] h (fun h' => SBD mo g h' k b) :=
  Cm.of (by decide) (Nat.le_of_ble_eq_true rfl) (vX8_wrong_0 ⟨(w.sg S.1).1.1, fun z => absurd (S.2.1.symm.trans z) S.2.2.1, fun _ => ⟨rfl, S⟩⟩)
theorem c_isB {k : Int32} (S : SBD mo g h k b) (w : GT mo tp n g) {j : Nat} : CI l x mX8_is 6 0 0 [.ref mo, .retAddr j] h (fun r h' => r = 0 ∧ h' = h) :=
  Cm.of (by decide) (Nat.le_of_ble_eq_true rfl) (vX8_is_0 ⟨(w.sg S.1).1.1, fun _ => vX8_is_39 ⟨fun _ => ⟨Or.inl rfl, _, rfl, rfl, rfl⟩, fun z => absurd rfl z⟩, fun z => absurd (S.2.1.symm.trans z) S.2.2.1⟩)
theorem wordL_len (k : Nat) : (wordL k).length < 8 := by
  unfold wordL
  split <;> decide
theorem c_is (S : SOK mo tp n g h d cl b) (w : GT mo tp n g) (xs : XS l x) {k : Nat} (hk : k < 10) : CI l x mX8_is 6 0 0 [.ref mo, .retAddr (10 + k)] h (fun r h' => (isW tp n k b ∧ r = 1 ∨ ¬ isW tp n k b ∧ r = 0) ∧ h' = h) := by
  have wh := S.gt w
  have hn := wh.2.2.2.1
  have T := S.2.2.2.2.1
  have te := tkE_le (tp := tp) S.2.2.2.2.2
  have L : txL (10 + k) = (wordL k).length := by unfold txL; rw [wordL_m]
  have l8 := wordL_len k
  have out : ∀ {r : Int32} (hr : r = 0), ¬ isW tp n k b → Gm l x mX8_is 6 39 [(0, .ref mo), (1, .retAddr (10 + k)), (2, .int r), (3, .int 0)] [] h 0 0 (hN h) (fun v h' => ∃ r, v = some (.int r) ∧ (isW tp n k b ∧ r = 1 ∨ ¬ isW tp n k b ∧ r = 0) ∧ h' = h) (fun _ _ => False) := fun hr z =>
    vX8_is_39 ⟨fun _ => ⟨Or.inl hr, _, rfl, Or.inr ⟨z, hr⟩, rfl⟩, fun y => absurd hr y⟩
  refine Cm.of (by decide) (Nat.le_of_ble_eq_true rfl) (vX8_is_0 ⟨wh.1.1, fun z => absurd S.2.1 z, fun _ => ⟨fun z => ?_, fun z => ⟨_, xs.2.2.2.1 (10 + k) (by omega), ?_⟩⟩⟩)
  · refine out rfl fun q => z ?_
    rw [T.2.1, q.1]; rfl
  · have ek : tkK tp n b = 1 := by
      rw [T.2.1] at z
      exact (nI_eq (b := 1) (by have := tkK_lt (tp := tp) (n := n) (b := b); omega) (by decide)).mp z
    rw [T.2.2.2.1, T.2.2.1, nI_sub te.1, L]
    rintro y7 e7
    by_cases z1 : (wordL k).length = tkE tp n b - b
    · rw [if_pos (by rw [z1])] at e7
      subst e7
      have loop : ∀ (j i : Nat), i + j = (wordL k).length → (∀ m, m < i → tp (b + m) = nI ((wordL k).getD m 0)) → Gm l x mX8_is 6 39 [(0, .ref mo), (1, .retAddr (10 + k)), (2, .int 1), (3, .int (nI i))] [] h 0 0 (hN h) (fun v h' => ∃ r, v = some (.int r) ∧ (isW tp n k b ∧ r = 1 ∨ ¬ isW tp n k b ∧ r = 0) ∧ h' = h) (fun _ _ => False) := by
        intro j
        induction j with
        | zero =>
          intro i hi hm
          refine vX8_is_39 ⟨fun q => absurd q (by decide), fun _ => ⟨_, xs.2.2.2.2.1 (10 + k) _ (by omega), fun _ => ⟨Or.inr rfl, _, rfl, Or.inl ⟨⟨ek, by omega, fun m hm' => hm m (by omega)⟩, rfl⟩, rfl⟩, fun q => absurd ?_ q⟩⟩
          rw [L]
          exact nI_le (by omega) (by omega)
        | succ j ih =>
          intro i hi hm
          have w10 := wh.1.row 10 10 900 (by decide)
          refine vX8_is_39 ⟨fun q => absurd q (by decide), fun _ => ⟨_, xs.2.2.2.2.1 (10 + k) _ (by omega), fun q => absurd q (by rw [L]; exact nI_ge (by omega) (by omega)), fun _ => ⟨_, xs.2.2.2.2.2 (10 + k) i (by omega) (by omega), wh.1.1, mo + 10, w10.1, w10.2.1, ?_, ?_⟩⟩⟩
          · rw [T.2.2.1, nI_add, w10.2.2]
            exact vp_in_nI (by omega) (by decide)
          · rw [T.2.2.1, nI_add, nI_clamp (by omega), wh.2.2.1 _ (by omega), show txC (10 + k) i = (wordL k).getD i 0 by unfold txC; rw [wordL_m], nI_1]
            rintro y13 e13
            by_cases z2 : nI ((wordL k).getD i 0) = tp (b + i)
            · rw [if_pos z2] at e13
              subst e13
              refine ih (i + 1) (by omega) fun m hm' => ?_
              by_cases z3 : m = i
              · rw [z3]; exact z2.symm
              · exact hm m (by omega)
            · rw [if_neg z2] at e13
              subst e13
              exact vX8_is_39 ⟨fun _ => ⟨Or.inl rfl, _, rfl, Or.inr ⟨fun q => z2 (q.2.2 i (by omega)).symm, rfl⟩, rfl⟩, fun y => absurd rfl y⟩
      exact loop _ 0 (Nat.zero_add _) fun m hm => absurd hm (Nat.not_lt_zero m)
    · have z2 : ¬ nI (wordL k).length = nI (tkE tp n b - b) := fun q => z1 ((nI_eq (by omega) (by omega)).mp q)
      rw [if_neg z2] at e7
      exact out e7 fun q => z1 (by have := q.2.1; omega)
/-- the first of the seven words that stands at b; 7: none -/
noncomputable abbrev whB (tp : Nat → Int32) (n b : Nat) : Nat := whA (fun k => isW tp n k b) 7 0
theorem c_which (S : SOK mo tp n g h d cl b) (w : GT mo tp n g) (xs : XS l x) : CI l x mX8_which 7 0 0 [.ref mo] h (fun r h' => (whB tp n b = 7 ∧ r = -1 ∨ whB tp n b < 7 ∧ r = nI (whB tp n b)) ∧ h' = h) := by
  have wh := (S.gt w).1
  obtain ⟨w1, w2, w3⟩ := wh.2.2
  have loop : ∀ (j i : Nat), i + j = 7 → (∀ m, m < i → ¬ isW tp n m b) → Gm l x mX8_which 7 2 [(0, .ref mo), (1, .int (nI i))] [] h 0 0 (hN h) (fun v h' => ∃ r, v = some (.int r) ∧ (whB tp n b = 7 ∧ r = -1 ∨ whB tp n b < 7 ∧ r = nI (whB tp n b)) ∧ h' = h) (fun _ _ => False) := by
    intro j
    induction j with
    | zero =>
      intro i hi hm
      refine vX8_which_2 ⟨wh.1, mo + 1, w1, by rw [w2], fun _ => ⟨_, rfl, Or.inl ⟨whA_no 7 0 fun m _ hm' => hm m (by omega), rfl⟩, rfl⟩, fun q => absurd ?_ q⟩
      rw [w2, show i = 7 by omega]
      exact nI_le (a := 7) (by decide) (by decide)
    | succ j ih =>
      intro i hi hm
      refine vX8_which_2 ⟨wh.1, mo + 1, w1, by rw [w2], fun q => absurd q (by rw [w2]; exact nI_ge (b := 7) (by omega) (by decide)), fun _ => ⟨by rw [w2]; exact vp_in_nI (by omega) (by decide), 10 + i, by rw [nI_clamp (by omega)]; exact w3 i (by omega), _, c_is S w xs (by omega), ?_⟩⟩
      rintro r12 _ ⟨q, eh⟩
      obtain rfl := eh.symm
      rcases q with ⟨q1, q2⟩ | ⟨q1, q2⟩
      · have e := whA_eq (P := fun k => isW tp n k b) (k := i) q1 7 0 (by omega) (by omega) fun m _ hm' => hm m hm'
        exact ⟨fun y => absurd (q2.symm.trans y) (by decide), fun _ => ⟨_, rfl, Or.inr (by unfold whB; rw [e]; exact ⟨by omega, rfl⟩), rfl⟩⟩
      · refine ⟨fun _ => ?_, fun y => absurd q2 y⟩
        rw [nI_1]
        refine ih (i + 1) (by omega) fun m hm' => ?_
        by_cases z : m = i
        · rw [z]; exact q1
        · exact hm m (by omega)
  exact Cm.of (by decide) (Nat.le_of_ble_eq_true rfl) (vX8_which_0 (loop 7 0 rfl fun m hm => absurd hm (Nat.not_lt_zero m)))
theorem tkV_lt (w : BY n tp) (hb : b ≤ n) (h2 : tkK tp n b = 2) (h3 : tkE tp n b - b ≤ 2) : tkV tp n b < 100 := by
  have te := tkE_le (tp := tp) hb
  have z0 : ¬ n ≤ b := fun q => by unfold tkK at h2; rw [if_pos q] at h2; exact absurd h2 (by decide)
  have z1 : ¬ bLe (tp b) = true := fun q => by unfold tkK at h2; rw [if_neg z0, if_pos q] at h2; exact absurd h2 (by decide)
  have z2 : bDi (tp b) = true := Classical.byContradiction fun q => by
    unfold tkK at h2
    rw [if_neg z0, if_neg z1, if_neg q] at h2
    split at h2 <;> exact absurd h2 (by decide)
  have ee : tkE tp n b = rE bDi tp n b := by unfold tkE; rw [if_neg z0, if_neg z1, if_pos z2]
  have dg : ∀ (k a : Nat), a + k = rE bDi tp n b → rE bDi tp n a = rE bDi tp n b → ∀ i, i < k → bDi (tp (a + i)) = true := by
    intro k
    induction k with
    | zero => intro a _ _ i hi; omega
    | succ k ih =>
      intro a ha hr i hi
      have za : bDi (tp a) = true := Classical.byContradiction fun q => by
        rw [rE_no (by rw [← ee] at ha; omega) q] at hr
        omega
      by_cases q : i = 0
      · rw [q]; exact za
      · have := ih (a + 1) (by omega) (by rw [← rE_yes (by rw [← ee] at ha; omega) za]; exact hr) (i - 1) (by omega)
        rw [show a + 1 + (i - 1) = a + i by omega] at this
        exact this
  have q := nv_le w (b := b) (tkE tp n b - b) (by omega) (dg _ b (by rw [ee] at te ⊢; omega) rfl)
  unfold tkV
  have : tkE tp n b - b = 0 ∨ tkE tp n b - b = 1 ∨ tkE tp n b - b = 2 := by omega
  rcases this with e | e | e <;> rw [e] at q ⊢ <;> omega
theorem c_numberNowB {k : Int32} (S : SBD mo g h k b) (w : GT mo tp n g) {lo hi : Int32} : CI l x mX8_numberNow 1 0 0 [.ref mo, .int lo, .int hi] h (fun _ h' => SBD mo g h' k b) :=
  Cm.of (by decide) (Nat.le_of_ble_eq_true rfl) (vX8_numberNow_0 ⟨(w.sg S.1).1.1, fun z => absurd (S.2.1.symm.trans z) S.2.2.1, fun _ => ⟨_, rfl, S⟩⟩)
theorem c_numberNow (S : SOK mo tp n g h d cl b) (w : GT mo tp n g) {lo hi : Nat} (hl : lo < 1000) (hh : hi < 1000) : CI l x mX8_numberNow 1 0 0 [.ref mo, .int (nI lo), .int (nI hi)] h (fun r h' => NB tp n lo hi b ∧ r = nI (tkV tp n b) ∧ h' = h ∨ ¬ NB tp n lo hi b ∧ SBD mo g h' (nuE tp n b) b) := by
  have wh := S.gt w
  have hn := wh.2.2.2.1
  have T := S.2.2.2.2.1
  have te := tkE_le (tp := tp) S.2.2.2.2.2
  have kl := tkK_lt (tp := tp) (n := n) (b := b)
  refine Cm.of (by decide) (Nat.le_of_ble_eq_true rfl) (vX8_numberNow_0 ⟨wh.1.1, fun _ => ⟨fun z => ?_, fun z => ?_⟩, fun z => absurd S.2.1 z⟩)
  · have ek : tkK tp n b = 2 := by
      rw [T.2.1] at z
      exact (nI_eq (b := 2) (by omega) (by decide)).mp z
    have en : nuE tp n b = 2 := if_pos ek
    rw [T.2.2.2.1, T.2.2.1, nI_sub te.1]
    refine ⟨fun y => ?_, fun y => ?_⟩
    · have z2 : ¬ tkE tp n b - b ≤ 2 := fun q => absurd y (nI_nlt (b := tkE tp n b - b) (a := 2) q (by decide))
      refine ⟨_, c_wrong S w (by decide), fun h7 q => ⟨(w.sg q.1).1.1, _, rfl, Or.inr ⟨fun q => z2 q.2.1, by rw [en]; exact q⟩⟩⟩
    · have z2 : tkE tp n b - b ≤ 2 := Nat.le_of_not_lt fun q => y (nI_lt (a := 2) q (by omega))
      have v1 := tkV_lt wh.2.2.2.2 S.2.2.2.2.2 ek z2
      rw [T.2.2.2.2 ek z2]
      refine ⟨fun q1 => ?_, fun q1 => ⟨fun q2 => ?_, fun q2 => ?_⟩⟩
      · have z3 : ¬ lo ≤ tkV tp n b := fun q => absurd q1 (nI_nlt q (by omega))
        exact ⟨_, c_wrong S w (by decide), fun h7 q => ⟨(w.sg q.1).1.1, _, rfl, Or.inr ⟨fun q => z3 q.2.2.1, by rw [en]; exact q⟩⟩⟩
      · refine ⟨_, rfl, Or.inl ⟨⟨ek, z2, Nat.le_of_not_lt fun q => q1 (nI_lt q (by omega)), Nat.le_of_not_lt fun q => absurd q2 (nI_ge q (by omega))⟩, ?_, rfl⟩⟩
        rw [if_pos S.2.1]
      · have z3 : ¬ tkV tp n b ≤ hi := fun q => q2 (nI_le q (by omega))
        exact ⟨_, c_wrong S w (by decide), fun h7 q => ⟨(w.sg q.1).1.1, _, rfl, Or.inr ⟨fun q => z3 q.2.2.2, by rw [en]; exact q⟩⟩⟩
  · have ek : ¬ tkK tp n b = 2 := fun q => z (by rw [T.2.1, q]; rfl)
    have en : nuE tp n b = 1 := if_neg ek
    exact ⟨_, c_wrong S w (by decide), fun h7 q => ⟨(w.sg q.1).1.1, _, rfl, Or.inr ⟨fun q => ek q.1, by rw [en]; exact q⟩⟩⟩
theorem r_stepOn (S : SOK mo tp n g h d cl b) (w : GT mo tp n g) : CV l x mX8_stepOn 1 0 0 [.ref mo] h (fun h' => SOK mo tp n g h' d cl (tokB tp n (tkE tp n b))) := by
  have te := tkE_le (tp := tp) S.2.2.2.2.2
  refine (c_stepOn (S.gt w) te.2 S.2.2.2.2.1.1).mono ?_
  rintro v h' ⟨e, s, t⟩
  have o : ∀ (c j : Nat), ¬ stP mo c j → hI h' c j = hI h c j := s.2.2.2
  exact ⟨e, S.1.trans (s.mo fun _ _ => stP_rd), (o _ _ (by unfold stP; omega)).trans S.2.1, (o _ _ (by unfold stP; omega)).trans S.2.2.1, ⟨fun j => (o _ _ (by unfold stP; omega)).trans (S.2.2.2.1.1 j), fun j => (o _ _ (by unfold stP; omega)).trans (S.2.2.2.1.2.1 j), fun j => (o _ _ (by unfold stP; omega)).trans (S.2.2.2.1.2.2 j)⟩, t, (tokB_le te.2).2⟩
theorem c_readNumberB {k : Int32} (S : SBD mo g h k b) (w : GT mo tp n g) {lo hi : Int32} : CI l x mX8_readNumber 2 0 0 [.ref mo, .int lo, .int hi] h (fun _ h' => SBD mo g h' k b) := by
  refine Cm.of (by decide) (Nat.le_of_ble_eq_true rfl) (vX8_readNumber_0 ⟨(w.sg S.1).1.1, _, c_numberNowB S w, fun r h1 S1 => ⟨(w.sg S1.1).1.1, fun _ => ⟨_, rfl, S1⟩, fun z => absurd (S1.2.1.symm.trans z) S1.2.2.1⟩⟩)
theorem c_readNumber (S : SOK mo tp n g h d cl b) (w : GT mo tp n g) {lo hi : Nat} (hl : lo < 1000) (hh : hi < 1000) : CI l x mX8_readNumber 2 0 0 [.ref mo, .int (nI lo), .int (nI hi)] h (fun r h' => NB tp n lo hi b ∧ r = nI (tkV tp n b) ∧ SOK mo tp n g h' d cl (tokB tp n (tkE tp n b)) ∨ ¬ NB tp n lo hi b ∧ SBD mo g h' (nuE tp n b) b) := by
  refine Cm.of (by decide) (Nat.le_of_ble_eq_true rfl) (vX8_readNumber_0 ⟨(S.gt w).1.1, _, c_numberNow S w hl hh, ?_⟩)
  rintro r h1 (⟨q1, q2, eh⟩ | ⟨q1, S1⟩)
  · obtain rfl := eh.symm
    exact ⟨(S.gt w).1.1, fun z => absurd S.2.1 z, fun _ => ⟨_, r_stepOn S w, fun h10 S10 => ⟨_, rfl, Or.inl ⟨q1, q2, S10⟩⟩⟩⟩
  · exact ⟨(w.sg S1.1).1.1, fun _ => ⟨_, rfl, Or.inr ⟨q1, S1⟩⟩, fun z => absurd (S1.2.1.symm.trans z) S1.2.2.1⟩
theorem c_floorNowB {k : Int32} (S : SBD mo g h k b) (w : GT mo tp n g) : CI l x mX8_floorNow 2 0 0 [.ref mo] h (fun _ h' => SBD mo g h' k b) := by
  refine Cm.of (by decide) (Nat.le_of_ble_eq_true rfl) (vX8_floorNow_0 ⟨(w.sg S.1).1.1, _, c_numberNowB S w, fun r h1 S1 => ⟨(w.sg S1.1).1.1, fun _ => ⟨_, rfl, S1⟩, fun z => absurd (S1.2.1.symm.trans z) S1.2.2.1⟩⟩)
theorem c_floorNow (S : SOK mo tp n g h d cl b) (w : GT mo tp n g) {nf : Nat} (e0 : d.1 0 = nI nf) (hf : nf ≤ 12) : CI l x mX8_floorNow 2 0 0 [.ref mo] h (fun r h' => (NB tp n 0 99 b ∧ tkV tp n b < nf) ∧ r = nI (tkV tp n b) ∧ h' = h ∨ ¬ NB tp n 0 99 b ∧ SBD mo g h' (nuE tp n b) b ∨ (NB tp n 0 99 b ∧ ¬ tkV tp n b < nf) ∧ SBD mo g h' 3 b) := by
  have w5 := (S.gt w).1.row 5 5 7 (by decide)
  refine Cm.of (by decide) (Nat.le_of_ble_eq_true rfl) (vX8_floorNow_0 ⟨(S.gt w).1.1, _, c_numberNow (lo := 0) (hi := 99) S w (by decide) (by decide), ?_⟩)
  rintro r h1 (⟨q1, q2, eh⟩ | ⟨q1, S1⟩)
  · obtain rfl := eh.symm
    have v1 := tkV_lt (S.gt w).2.2.2.2 S.2.2.2.2.2 q1.1 q1.2.1
    refine ⟨(S.gt w).1.1, fun z => absurd S.2.1 z, fun _ => ⟨mo + 5, w5.1, w5.2.1, by rw [w5.2.2]; exact vp_in_nI (n := 0) (by decide) (by decide), ?_⟩⟩
    rw [show hI h (mo + 5) (Int32.toNatClampNeg 0) = nI nf from (S.2.2.2.1.1 0).trans e0, q2]
    refine ⟨fun z => ⟨_, rfl, Or.inl ⟨⟨q1, (nI_ltI (by omega) (by omega)).mp z⟩, rfl, rfl⟩⟩, fun z => ⟨_, c_wrong S w (by decide), fun h15 q => ⟨_, rfl, Or.inr (Or.inr ⟨⟨q1, fun y => z (nI_lt y (by omega))⟩, q⟩)⟩⟩⟩
  · exact ⟨(w.sg S1.1).1.1, fun _ => ⟨_, rfl, Or.inr (Or.inl ⟨q1, S1⟩)⟩, fun z => absurd (S1.2.1.symm.trans z) S1.2.2.1⟩
end Word
